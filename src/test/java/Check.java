/** What the tests share: comparing answers, awaiting exceptions, and feeding texts. */
final class Check {
    private static int wrong = 0;
    private static int made = 0;
    private static String head = "";

    private Check() {
    }

    interface Call {
        void run();
    }

    static void same(String what, long want, long got) {
        made++;
        if (want != got) tell(what + " answered " + got + ", due is " + want);
    }

    static void same(String what, String want, String got) {
        made++;
        if (!want.equals(got)) tell(what + " answered " + got + ", due is " + want);
    }

    static void yes(String what, boolean holds) {
        made++;
        if (!holds) tell(what + " does not hold");
    }

    static void index(String what, Call call) {
        fails(what, IndexOutOfBoundsException.class, call);
    }

    static void argument(String what, Call call) {
        fails(what, IllegalArgumentException.class, call);
    }

    static void state(String what, Call call) {
        fails(what, IllegalStateException.class, call);
    }

    static void full(String what, Call call) {
        fails(what, UnsupportedOperationException.class, call);
    }

    static void noSuch(String what, Call call) {
        fails(what, java.util.NoSuchElementException.class, call);
    }

    private static void fails(String what, Class<?> due, Call call) {
        made++;
        try {
            call.run();
        } catch (RuntimeException e) {
            if (e.getClass() != due) tell(what + " threw " + e.getClass().getName() + ", due is " + due.getName());
            if (!isThrownByTheProgram(e)) tell(what + " was thrown by the machine or the library");
            return;
        }
        tell(what + " threw nothing, due is " + due.getName());
    }

    /** A list throws the same exception as the document asks for: who threw it is seen by the place. */
    static boolean isThrownByTheProgram(RuntimeException e) {
        StackTraceElement[] places = e.getStackTrace();
        return places.length > 0 && places[0].getClassName().startsWith("PassportOffice");
    }

    /** What is checked from now on, told ahead of each wrong answer. */
    static void under(String text) {
        head = text.isEmpty() ? "" : "[" + text + "] ";
    }

    private static void tell(String text) {
        wrong++;
        if (wrong <= 50) System.out.println(head + text);
    }

    /** Ends a test: exit code 1 if an answer was wrong. */
    static void close() {
        System.out.println(made + " checks, " + wrong + " wrong");
        if (wrong != 0 || made == 0) System.exit(1);
    }

    /** Puts a text (characters 0 to 255) on an empty tape. */
    static PassportOffice feed(PassportOffice x, String text) {
        for (int i = 0; i < text.length(); i += 20) {
            x.feed(number(text, i), number(text, i + 4), number(text, i + 8), number(text, i + 12), number(text, i + 16));
        }
        x.end(text.length());
        return x;
    }

    static int number(String text, int at) {
        int number = 0;
        for (int i = at; i < at + 4; i++) number = number << 8 | (i < text.length() ? text.charAt(i) & 255 : 0);
        return number;
    }

    static int law(PassportOffice x, int from, String text) {
        return feed(x, text).law(from);
    }

    static int name(PassportOffice x, int person, String text) {
        return feed(x, text).name(person);
    }

    /** A grown-up at home whose face is far from that of all others made so with another number. */
    static int apart(PassportOffice x, int n) {
        return x.person(-9000, false, 10 * (n % 10), 10 * (n / 10), 0, 0, 0);
    }

    static String[] of(String... texts) {
        return texts;
    }
}
