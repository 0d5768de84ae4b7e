import java.util.function.Consumer;
import java.util.function.Supplier;

/** Two offices that were told the same, but for a call that is to change nothing: they answer alike, now and later. */
final class Twins {
    private static final int SOME = 10;

    private Twins() {
    }

    /** What an office answers of its last people, askings and booklets, and of all else. */
    static String all(PassportOffice x) {
        StringBuilder text = new StringBuilder();
        int today = x.count(0);
        for (int what = 0; what < 18; what++) put(text, "count " + what, x.count(what));
        put(text, "fault", x.fault());
        for (int i = Math.max(0, x.count(3) - SOME); i < x.count(3); i++) {
            for (int what : new int[] {0, 5, 6, 8, 11, 12, 13, 14, 15}) put(text, "led " + i + " " + what, x.led(i, what));
            put(text, "ahead " + i, x.ahead(i));
        }
        for (int i = Math.max(0, x.count(7) - 5); i < x.count(7); i++) {
            for (int what = 1; what < 4; what++) put(text, "booklet " + i + " " + what, x.booklet(i, what));
        }
        for (int desk = 0; desk < 4; desk++) {
            put(text, "queue " + desk, x.queue(desk));
            for (int day : new int[] {today, today + 1, today + 6}) put(text, "units " + desk + " " + day, x.units(desk, day));
        }
        for (int i = Math.max(0, x.count(1) - SOME / 2); i < x.count(1); i++) {
            put(text, "valid " + i, x.valid(i, today));
            put(text, "figure " + i, x.figure(i));
            put(text, "far " + i, x.far(0, i));
        }
        if (x.count(1) > 0) {
            put(text, "sign", x.sign(0, 3));
            for (int what = 0; what < 6; what++) put(text, "judge " + what, x.judge(0, 1, 1000, true, what));
        }
        for (int kind = 0; kind < 4; kind++) put(text, "waits " + kind, x.waits(kind, true));
        for (int rule = 0; rule < 3; rule++) put(text, "missed " + rule, x.missed(rule, 9 + 20 * rule));
        put(text, "ends", x.ends(0, today));
        return text.toString();
    }

    private static void put(StringBuilder text, String what, int answer) {
        text.append(what).append(": ").append(answer).append("; ");
    }

    /** What may come behind a refused call. */
    private static void goOn(PassportOffice x, int way) {
        if (way == 1) x.days(1);
        if (way == 2) x.days(9);
        if (way == 3 && x.count(1) > 5) {
            x.tell(3, 5, false);
            x.days(3);
        }
        if (way == 4 && x.count(3) > 5) {
            for (int i = 0; i < SOME; i++) {
                if (x.led(i, 0) == 1) x.give(i, 255);
                if (x.led(i, 0) == 8) x.again(i);
            }
            for (int desk = 0; desk < 4; desk++) x.hands(desk, 20);
            x.days(7);
        }
        if (way == 5) {
            x.days(1);
            x.days(60);
        }
    }

    /** A call that is refused, and what of it the document allows to change: done to the other one. */
    static void unchanged(String what, Supplier<PassportOffice> begin, Consumer<PassportOffice> refused,
            Consumer<PassportOffice> allowed) {
        for (int way = 0; way < 6; way++) {
            PassportOffice x = begin.get();
            PassportOffice twin = begin.get();
            boolean thrown = false;
            try {
                refused.accept(x);
            } catch (RuntimeException e) {
                thrown = Check.isThrownByTheProgram(e);
            }
            Check.yes(what + " is thrown by the program", thrown);
            allowed.accept(twin);
            goOn(x, way);
            goOn(twin, way);
            Check.same(what + " changes nothing, way " + way, all(twin), all(x));
            int bytes = x.feed(0, 0, 0, 0, 0);
            Check.same(what + " and the tape", twin.feed(0, 0, 0, 0, 0), bytes);
            x.end(Math.max(0, bytes - 20));
            twin.end(Math.max(0, bytes - 20));
            Check.same(what + " and its bytes", law(twin), law(x));
        }
    }

    private static String law(PassportOffice x) {
        try {
            return x.law(x.count(0)) + " clauses";
        } catch (RuntimeException e) {
            return e.getClass().getName() + " at " + x.fault();
        }
    }
}
