import java.util.NoSuchElementException;

/** Long runs of chosen calls, each answered by the program and by the model; the choice is the same each time. */
final class RandomRunsTest {
    private static final int CALLS = 512;
    private static long seed;

    private interface IntCall {
        int run();
    }

    private interface VoidCall {
        void run();
    }

    private PassportOffice x;
    private Model m;
    private int today;
    private int people;
    private int askings;
    private int style;

    public static void main(String[] args) {
        int runs = args.length > 0 ? Integer.parseInt(args[0]) : 300;
        for (int run = 1; run <= runs; run++) new RandomRunsTest().go(run);
        Check.close();
    }

    private static int pick(int n) {
        seed = seed * 6364136223846793005L + 1442695040888963407L;
        return (int) ((seed >>> 33) % n);
    }

    private static boolean coin(int n) {
        return pick(n) == 0;
    }

    private static int odd(int usual) {
        if (!coin(60)) return usual;
        int[] odds = {-1, -2, Integer.MIN_VALUE, Integer.MAX_VALUE, 1001, 0, 4, 256, 120, 80};
        return odds[pick(odds.length)];
    }

    private static int answer(IntCall call) {
        try {
            return call.run();
        } catch (RuntimeException e) {
            if (!Check.isThrownByTheProgram(e)) throw e;
            if (e.getClass() == IndexOutOfBoundsException.class) return Model.INDEX;
            if (e.getClass() == IllegalArgumentException.class) return Model.ARGUMENT;
            if (e.getClass() == IllegalStateException.class) return Model.STATE;
            if (e.getClass() == UnsupportedOperationException.class) return Model.FULL;
            if (e.getClass() == NoSuchElementException.class) return Model.NO_SUCH;
            throw e;
        }
    }

    private static int done(VoidCall call) {
        return answer(() -> {
            call.run();
            return 0;
        });
    }

    private int made;
    private int run;

    private int same(String what, IntCall program, IntCall model) {
        int due = model.run();
        made++;
        Check.same("run " + run + " call " + made + ": " + what, due, answer(program));
        return due;
    }

    private void go(int number) {
        seed = number * 7919L;
        run = number;
        x = new PassportOffice();
        m = new Model();
        style = pick(6);
        int laws = 0;
        while (made < CALLS - 30) {
            if (made < 60 && people < 6) person();
            else if (laws < 1 || coin(style == 5 ? 6 : 45)) {
                text();
                laws++;
            } else call();
        }
        for (int i = 0; i < 18; i++) {
            int what = i;
            same("count " + i, () -> x.count(what), () -> m.count(what));
        }
    }

    private void person() {
        int born = odd(today - pick(coin(3) ? 9000 : 40000 - 1000));
        boolean abroad = coin(3);
        int near = style == 1 ? 3 : style == 2 ? 8 : 100;
        int[] face = new int[5];
        for (int i = 0; i < 5; i++) face[i] = odd(pick(near));
        int got = same("person", () -> x.person(born, abroad, face[0], face[1], face[2], face[3], face[4]),
            () -> m.person(born, abroad, face[0], face[1], face[2], face[3], face[4]));
        if (got >= 0) people = got + 1;
    }

    private void feed(String text) {
        for (int i = 0; i < text.length(); i += 20) {
            int[] n = new int[5];
            for (int k = 0; k < 5; k++) n[k] = Check.number(text, i + 4 * k);
            same("feed", () -> x.feed(n[0], n[1], n[2], n[3], n[4]), () -> m.feed(n[0], n[1], n[2], n[3], n[4]));
        }
        int length = odd(text.length());
        same("end", () -> x.end(length) ? 1 : 0, () -> m.end(length));
    }

    private void text() {
        if (coin(4)) {
            feed(RandomTexts.name(RandomRunsTest::pick));
            int person = odd(pick(people + 1));
            same("name", () -> x.name(person), () -> m.name(person));
            for (int k = 0; k < 3; k++) {
                int i = pick(26) - 1;
                same("sign", () -> x.sign(person, i), () -> m.sign(person, i));
            }
            same("figure", () -> x.figure(person), () -> m.figure(person));
        } else {
            String text = RandomTexts.law(RandomRunsTest::pick, coin(3));
            feed(text);
            int from = odd(today + (coin(2) ? 0 : pick(9)));
            same("law " + from + " " + text, () -> x.law(from), () -> m.law(from));
        }
        same("fault", () -> x.fault(), () -> m.fault());
    }

    private int day() {
        return odd(today + pick(coin(3) ? 1000 - today + 1 : 12));
    }

    private int who() {
        return odd(pick(people + (coin(20) ? 1 : 0)));
    }

    private int which() {
        if (askings == 0) return 0;
        return odd(coin(3) ? askings - 1 - pick(Math.min(askings, 8)) : pick(askings));
    }

    private void call() {
        int c = pick(100);
        int kind = odd(pick(4));
        int person = who();
        int asking = which();
        boolean flag = coin(3);
        if (c < 22) {
            int wanted = day();
            int items = odd(coin(2) ? 255 : pick(256));
            int got = same("ask", () -> x.ask(person, kind, wanted, items, flag), () -> m.ask(person, kind, wanted, items, flag));
            if (got >= 0) askings = got + 1;
        } else if (c < 34) {
            int n = odd(coin(20) ? pick(61) : pick(4));
            today = Math.max(today, same("days", () -> x.days(n), () -> m.days(n)));
        } else if (c < 40) {
            int items = odd(coin(2) ? 255 : pick(256));
            same("give", () -> x.give(asking, items), () -> m.give(asking, items));
        } else if (c < 52) {
            int what = odd(pick(17));
            same("led " + asking + " " + what, () -> x.led(asking, what), () -> m.led(asking, what));
        } else if (c < 60) {
            int what = odd(pick(19));
            same("count " + what, () -> x.count(what), () -> m.count(what));
        } else if (c < 64) {
            int wanted = day();
            int what = odd(pick(7));
            same("judge", () -> x.judge(person, kind, wanted, flag, what), () -> m.judge(person, kind, wanted, flag, what));
        } else if (c < 70) {
            int rule = odd(pick(3));
            int n = odd(coin(3) ? pick(61) : pick(12));
            same("missed " + rule + " " + n, () -> x.missed(rule, n), () -> m.missed(rule, n));
        } else if (c < 80) {
            telling(c, person, asking, flag);
        } else {
            asking(c, person, asking, kind, flag);
        }
    }

    private void telling(int c, int person, int asking, boolean flag) {
        int desk = odd(pick(4));
        int other = who();
        if (c == 70) same("refuse", () -> done(() -> x.refuse(asking)), () -> m.refuse(asking));
        else if (c == 71 || c == 72) same("lose", () -> done(() -> x.lose(asking)), () -> m.lose(asking));
        else if (c == 73 || c == 74) same("again", () -> done(() -> x.again(asking)), () -> m.again(asking));
        else if (c == 75) {
            int n = odd(style == 3 ? pick(2) : pick(31));
            same("hands", () -> done(() -> x.hands(desk, n)), () -> m.hands(desk, n));
        } else if (c == 76) {
            int n = odd(1 + pick(coin(2) ? 3 : 30));
            int from = day();
            int to = odd(from + pick(9));
            int training = odd(pick(coin(2) ? 4 : 31));
            same("lend", () -> x.lend(desk, n, from, to, training), () -> m.lend(desk, n, from, to, training));
        } else if (c == 77) {
            if (coin(2)) rules();
            else {
                int rule = odd(pick(3));
                same("order", () -> done(() -> x.order(rule)), () -> m.order(rule));
            }
        } else if (c == 78) {
            int n = odd(style == 4 ? pick(5) : pick(90));
            same("blanks", () -> x.blanks(n), () -> m.blanks(n));
        } else if (coin(2)) {
            int from = day();
            int to = odd(from + pick(6));
            same("broken", () -> done(() -> x.broken(from, to)), () -> m.broken(from, to));
        } else same("tell", () -> x.tell(person, other, flag), () -> m.tell(person, other, flag));
    }

    private void rules() {
        int[] r = {odd(1 + pick(coin(2) ? 5 : 200)), odd(pick(coin(2) ? 60 : 10001)), odd(pick(coin(2) ? 12 : 1001)),
            odd(pick(coin(2) ? 4 : 61)), odd(pick(coin(2) ? 4 : 61))};
        same("rules", () -> done(() -> x.rules(r[0], r[1], r[2], r[3], r[4])), () -> m.rules(r));
    }

    private void asking(int c, int person, int asking, int kind, boolean flag) {
        int desk = odd(pick(4));
        int other = who();
        int day = coin(2) ? day() : odd(today + pick(4000));
        int booklet = odd(pick(Math.max(1, m.count(7))));
        if (c < 84) same("tell", () -> x.tell(person, other, flag), () -> m.tell(person, other, flag));
        else if (c < 86) same("queue", () -> x.queue(desk), () -> m.queue(desk));
        else if (c < 89) same("ahead", () -> x.ahead(asking), () -> m.ahead(asking));
        else if (c < 91) {
            int what = odd(pick(4));
            same("booklet", () -> x.booklet(booklet, what), () -> m.booklet(booklet, what));
        } else if (c < 93) same("valid", () -> x.valid(person, day), () -> m.valid(person, day));
        else if (c < 95) same("waits", () -> x.waits(kind, flag), () -> m.waits(kind, flag));
        else if (c < 96) {
            int from = coin(2) ? 0 : day;
            int to = odd(day + pick(4000));
            same("ends", () -> x.ends(from, to), () -> m.ends(from, to));
        } else if (c < 97) same("units", () -> x.units(desk, day), () -> m.units(desk, day));
        else if (c < 98) same("far", () -> x.far(person, other), () -> m.far(person, other));
        else if (coin(3) || style == 1) person();
        else same("waits", () -> x.waits(kind, !flag), () -> m.waits(kind, !flag));
    }
}
