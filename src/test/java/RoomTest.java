import java.lang.management.ManagementFactory;

/** What a run makes: no call of a full office takes much room, though all that 512 of them make stays. */
final class RoomTest {
    private static final int TIMES = 150;
    /** 512 such calls make some 800,000 elements, a ninth of the room. */
    private static final long MOST_BYTES_OF_A_CALL = 6000;
    private static final com.sun.management.ThreadMXBean ROOM =
        (com.sun.management.ThreadMXBean) ManagementFactory.getThreadMXBean();

    public static void main(String[] args) {
        String law = "need deed if not ( age < 9 and wanted > 3 or valid ) ; see if urgent or lost; fee 5; years 7";
        each("law", begun(), (x, i) -> tryLaw(Check.feed(x, law)));
        each("person", new PassportOffice(), (x, i) -> {
            if (i < 79) Check.apart(x, i);
        });
        each("name", Scene.people(1), (x, i) -> Check.name(x, 0, "Aa Bb-Cc"));
        each("tell", begun(), (x, i) -> x.tell(i % 79, 79, i % 2 == 0));
        each("judge", begun(), (x, i) -> x.judge(i % 80, 1, 900, true, 3));
        each("ask", Scene.quick(80, law), (x, i) -> {
            if (i < 119) x.ask(i % 80, 1, 900, 0, true);
        });
        each("days", begun(), (x, i) -> x.days(6));
        each("led", begun(), (x, i) -> x.led(i % 120, i % 16));
        each("ahead", begun(), (x, i) -> x.ahead(i % 120));
        each("valid", begun(), (x, i) -> x.valid(i % 80, i));
        each("missed", begun(), (x, i) -> x.missed(i % 3, 60));
        each("waits", gone(), (x, i) -> x.waits(3, i % 2 == 0));
        each("ends", gone(), (x, i) -> x.ends(0, 9000));
        each("count", gone(), (x, i) -> x.count(i % 18));
        Check.close();
    }

    private interface Call {
        void of(PassportOffice x, int i);
    }

    /** 80 people, 12 laws and 120 askings. */
    private static PassportOffice begun() {
        PassportOffice x = Scene.quick(80, "fee 9 if urgent");
        for (int i = 0; i < 11; i++) Check.law(x, 0, "years 5");
        for (int i = 0; i < 120; i++) x.ask(i % 80, 3, 1000, 0, false);
        return x;
    }

    private static PassportOffice gone() {
        PassportOffice x = Full.booklets(120);
        x.days(60);
        x.days(2);
        return x;
    }

    private static void tryLaw(PassportOffice x) {
        Check.full("there are 12", () -> x.law(0));
    }

    private static void each(String what, PassportOffice x, Call call) {
        // the machine's own first steps are not to be measured
        call.of(x, 0);
        long before = ROOM.getCurrentThreadAllocatedBytes();
        int times = what.equals("law") ? TIMES / 8 : TIMES;
        for (int i = 0; i < times; i++) call.of(x, i);
        long bytes = (ROOM.getCurrentThreadAllocatedBytes() - before) / times;
        Check.yes(what + " takes " + bytes + " bytes", bytes >= 0 && bytes <= MOST_BYTES_OF_A_CALL);
        if (Boolean.getBoolean("tell")) System.out.println(what + ": " + bytes);
    }
}
