import java.util.LinkedHashMap;
import java.util.Map;
import java.util.function.Consumer;

/** Which exception is thrown first, and that a call that throws changes nothing but what the document says. */
final class EdgesOfRefusals {
    private static final int LEAST = Integer.MIN_VALUE;
    private static final int GREATEST = Integer.MAX_VALUE;

    private EdgesOfRefusals() {
    }

    static void all() {
        Edge.of("Of several exceptions the one told first is thrown;", EdgesOfRefusals::toldFirst);
        Edge.of("a call that throws changes nothing", EdgesOfRefusals::throwingChangesNothing);
        Edge.of("but the TAPE, where it is used up, and fault(), where a text is read.", EdgesOfRefusals::butTheTapeAndFault);
        Edge.of("IndexOutOfBoundsException: there is no such one of PEOPLE, asking, DESK, BOOKLET.", EdgesOfRefusals::noSuchOne);
        Edge.of("IllegalStateException: the asking's STATE does not allow it.", EdgesOfRefusals::statesThatAllow);
    }

    private static void toldFirst() {
        PassportOffice x = Busy.office();
        Check.index("name: person, text", () -> x.name(6));
        Check.index("tell: people, they are one", () -> x.tell(6, 6, true));
        Check.index("tell: people, they are one", () -> x.tell(-1, -1, true));
        Check.index("judge: person, kind, what", () -> x.judge(6, 4, 3, true, 6));
        Check.index("judge: person, wanted", () -> x.judge(6, 0, 2, true, 0));
        Check.argument("judge: kind, what", () -> x.judge(0, 4, 3, true, 6));
        Check.argument("judge: wanted, what", () -> x.judge(0, 0, 2, true, -1));
        Check.index("ask: person, kind", () -> x.ask(6, -1, 3, 0, true));
        Check.index("ask: person, wanted", () -> x.ask(6, 0, 1001, 0, true));
        Check.index("ask: person, items", () -> x.ask(6, 0, 3, -1, true));
        Check.index("give: asking, items", () -> x.give(10, 256));
        for (int i = 0; i < Busy.STATES.length(); i++) {
            int asking = i;
            Check.argument("give: items, state", () -> x.give(asking, -1));
        }
        Check.index("hands: desk, n", () -> x.hands(4, 31));
        Check.index("lend: desk, n", () -> x.lend(4, 0, 3, 3, 0));
        Check.index("lend: desk, from", () -> x.lend(-1, 1, 2, 3, 0));
        Check.index("lend: desk, to", () -> x.lend(-1, 1, 4, 3, 0));
        Check.index("lend: desk, training", () -> x.lend(4, 1, 4, 4, 31));
        Check.index("led: asking, what", () -> x.led(10, 16));
        Check.index("booklet: booklet, what", () -> x.booklet(3, 4));
    }

    /** Calls that are refused in the busy office, and read no text. */
    private static Map<String, Consumer<PassportOffice>> refused() {
        Map<String, Consumer<PassportOffice>> calls = new LinkedHashMap<>();
        calls.put("person too old", x -> x.person(-40001, false, 1, 1, 1, 1, 1));
        calls.put("person of tomorrow", x -> x.person(4, false, 1, 1, 1, 1, 1));
        calls.put("face of 100", x -> x.person(0, false, 1, 1, 1, 1, 100));
        calls.put("sign", x -> x.sign(6, 0));
        calls.put("figure", x -> x.figure(6));
        calls.put("far", x -> x.far(0, 6));
        calls.put("tell a", x -> x.tell(6, 3, false));
        calls.put("tell b", x -> x.tell(3, 6, false));
        calls.put("tell one", x -> x.tell(3, 3, false));
        calls.put("judge person", x -> x.judge(6, 0, 9, true, 0));
        calls.put("judge wanted", x -> x.judge(0, 0, 2, true, 0));
        calls.put("judge what", x -> x.judge(0, 0, 9, true, 6));
        calls.put("ask person", x -> x.ask(6, 0, 9, 0, true));
        calls.put("ask kind", x -> x.ask(0, 4, 9, 0, true));
        calls.put("ask wanted", x -> x.ask(0, 0, 2, 0, true));
        calls.put("ask items", x -> x.ask(0, 0, 9, 256, true));
        calls.put("hands desk", x -> x.hands(4, 9));
        calls.put("hands n", x -> x.hands(1, 31));
        calls.put("lend desk", x -> x.lend(4, 9, 4, 9, 0));
        calls.put("lend n", x -> x.lend(1, 31, 4, 9, 0));
        calls.put("lend from", x -> x.lend(1, 9, 2, 9, 0));
        calls.put("lend to", x -> x.lend(1, 9, 4, 1001, 0));
        calls.put("lend training", x -> x.lend(1, 9, 4, 9, 31));
        calls.put("units", x -> x.units(4, 4));
        calls.put("patience", x -> x.rules(0, 0, 0, 0, 0));
        calls.put("limit", x -> x.rules(1, 10001, 0, 0, 0));
        calls.put("doubt", x -> x.rules(1, 0, 1001, 0, 0));
        calls.put("home", x -> x.rules(1, 0, 0, 61, 0));
        calls.put("abroad", x -> x.rules(1, 0, 0, 0, 61));
        calls.put("order", x -> x.order(3));
        calls.put("blanks", x -> x.blanks(1001));
        calls.put("fewer blanks", x -> x.blanks(-1));
        calls.put("broken", x -> x.broken(5, 4));
        calls.put("days", x -> x.days(61));
        calls.put("days back", x -> x.days(-1));
        calls.put("queue", x -> x.queue(4));
        calls.put("ahead", x -> x.ahead(10));
        calls.put("led asking", x -> x.led(10, 0));
        calls.put("led what", x -> x.led(0, 16));
        calls.put("booklet", x -> x.booklet(3, 0));
        calls.put("booklet what", x -> x.booklet(0, 4));
        calls.put("valid", x -> x.valid(6, 3));
        calls.put("missed rule", x -> x.missed(3, 9));
        calls.put("missed n", x -> x.missed(0, 61));
        calls.put("waits", x -> x.waits(4, true));
        return calls;
    }

    private static void throwingChangesNothing() {
        refused().forEach((what, call) -> Twins.unchanged(what, Busy::office, call, twin -> { }));
        for (int i = 0; i < Busy.STATES.length(); i++) {
            int asking = i;
            char state = Busy.STATES.charAt(i);
            Twins.unchanged("give no items", Busy::office, x -> x.give(asking, 256), twin -> { });
            if (state != '1') Twins.unchanged("give in " + state, Busy::office, x -> x.give(asking, 255), twin -> { });
            if (state > '5') Twins.unchanged("refuse in " + state, Busy::office, x -> x.refuse(asking), twin -> { });
            if (state != '6') Twins.unchanged("lose in " + state, Busy::office, x -> x.lose(asking), twin -> { });
            if (state != '8') Twins.unchanged("again in " + state, Busy::office, x -> x.again(asking), twin -> { });
        }
        Twins.unchanged("an 81st of people", () -> full(80, 0, 0), x -> x.person(0, true, 1, 1, 1, 1, 1), twin -> { });
        Twins.unchanged("a 121st asking", () -> full(6, 120, 0), x -> x.ask(0, 0, 9, 255, true), twin -> { });
        Twins.unchanged("blanks above 10000", EdgesOfRefusals::fullOfBlanks, x -> x.blanks(1), twin -> { });
        Twins.unchanged("blanks far above 10000", EdgesOfRefusals::fullOfBlanks, x -> x.blanks(1000), twin -> { });
    }

    /** An office with so many people, askings and laws. */
    private static PassportOffice full(int people, int askings, int laws) {
        PassportOffice x = Scene.ready(people);
        Check.law(x, 0, "fee 5");
        for (int i = 1; i < laws; i++) Check.law(x, i, "fee " + i + ";see");
        for (int i = 0; i < askings; i++) x.ask(i % people, i % 4, 5 + i % 7, 64 * (i % 2), i % 5 == 0);
        Check.feed(x, "see;see");
        return x;
    }

    private static PassportOffice fullOfBlanks() {
        PassportOffice x = Busy.office();
        int there = x.count(8);
        for (int i = 1; i < 10; i++) x.blanks(1000);
        x.blanks(1000 - there);
        return x;
    }

    private static PassportOffice spoilt() {
        PassportOffice x = Busy.office();
        x.feed(0x78202020, 0x20202020, 0x20202020, 0x20202020, 0x20202020);
        return x;
    }

    private static void usesTheTapeUp(String what, java.util.function.Supplier<PassportOffice> begin,
            Consumer<PassportOffice> call) {
        Twins.unchanged(what, begin, call, twin -> twin.end(0));
    }

    /** A text that was read leaves its fault, which the twin gets by a text with a wrong byte there. */
    private static void leavesAFault(String what, java.util.function.Supplier<PassportOffice> begin,
            Consumer<PassportOffice> call, int fault) {
        Twins.unchanged(what, begin, call, twin -> {
            twin.end(0);
            Check.feed(twin, " ".repeat(fault) + "!");
            Check.argument("a wrong text", () -> twin.law(twin.count(0)));
            Check.same("its fault", fault, twin.fault());
        });
    }

    private static void butTheTapeAndFault() {
        Check.same("the fault at first", Busy.FAULT, Busy.office().fault());
        usesTheTapeUp("law of yesterday", Busy::office, x -> x.law(2));
        usesTheTapeUp("law behind the last day", Busy::office, x -> x.law(1001));
        usesTheTapeUp("law of yesterday, wrong", EdgesOfRefusals::spoilt, x -> x.law(2));
        usesTheTapeUp("name of nobody", Busy::office, x -> x.name(6));
        usesTheTapeUp("name of nobody", Busy::office, x -> x.name(-1));
        usesTheTapeUp("name of nobody, wrong", EdgesOfRefusals::spoilt, x -> x.name(6));
        leavesAFault("wrong law", EdgesOfRefusals::spoilt, x -> x.law(3), 4);
        leavesAFault("wrong name", Busy::office, x -> x.name(0), 3);
        leavesAFault("wrong first name", Busy::office, x -> x.name(1), 3);
        // a 13th law is read, and right: the twin reads a right name
        Twins.unchanged("a 13th law", () -> full(6, 20, 12), x -> x.law(0), twin -> {
            twin.end(0);
            Check.same("no fault", -1, twin.fault());
        });
        Twins.unchanged("a 13th law behind a wrong one", EdgesOfRefusals::twelveAndAFault, x -> x.law(0), twin -> {
            twin.end(0);
            Check.name(twin, 5, "z");
        });
        Twins.unchanged("a wrong 13th law", () -> full(6, 20, 12), x -> {
            x.end(0);
            Check.feed(x, "see x");
            x.law(0);
        }, twin -> {
            twin.end(0);
            Check.feed(twin, "fee x");
            Check.argument("a wrong text", () -> twin.law(0));
        });
    }

    private static PassportOffice twelveAndAFault() {
        PassportOffice x = full(6, 20, 12);
        Check.argument("wrong", () -> x.name(5));
        Check.same("its fault", 3, x.fault());
        Check.name(x, 5, "z");
        x.feed(0, 0, 0, 0, 0);
        Check.argument("wrong", () -> x.name(5));
        Check.same("its fault", 0, x.fault());
        Check.feed(x, "see;see");
        return x;
    }

    private static void noSuchOne() {
        PassportOffice x = Busy.office();
        for (int no : new int[] {-1, 6, LEAST, GREATEST}) {
            Check.index("sign", () -> x.sign(no, 0));
            Check.index("figure", () -> x.figure(no));
            Check.index("far", () -> x.far(no, 0));
            Check.index("far", () -> x.far(0, no));
            Check.index("tell", () -> x.tell(no, 0, true));
            Check.index("tell", () -> x.tell(0, no, true));
            Check.index("judge", () -> x.judge(no, 0, 9, true, 0));
            Check.index("ask", () -> x.ask(no, 0, 9, 0, true));
            Check.index("valid", () -> x.valid(no, 0));
            Check.index("name", () -> x.name(no));
        }
        for (int no : new int[] {-1, 10, LEAST, GREATEST}) {
            Check.index("give", () -> x.give(no, 0));
            Check.index("refuse", () -> x.refuse(no));
            Check.index("lose", () -> x.lose(no));
            Check.index("again", () -> x.again(no));
            Check.index("led", () -> x.led(no, 0));
            Check.index("ahead", () -> x.ahead(no));
        }
        for (int no : new int[] {-1, 4, LEAST, GREATEST}) {
            Check.index("hands", () -> x.hands(no, 1));
            Check.index("lend", () -> x.lend(no, 1, 9, 9, 0));
            Check.index("units", () -> x.units(no, 0));
            Check.index("queue", () -> x.queue(no));
        }
        for (int no : new int[] {-1, 3, LEAST, GREATEST}) Check.index("booklet", () -> x.booklet(no, 0));
        Check.same("the last of people", 5, x.judge(5, 0, 9, true, 1));
        Check.same("the last asking", 1, x.led(9, 2));
        Check.same("the last desk", 8, x.units(3, 0));
        Check.same("the last booklet", 6, x.booklet(2, 3));
    }

    private static void statesThatAllow() {
        int[] allowed = new int[4];
        for (int i = 0; i < Busy.STATES.length(); i++) {
            for (int act = 0; act < 4; act++) {
                PassportOffice x = Busy.office();
                try {
                    if (act == 0) x.give(i, 255);
                    if (act == 1) x.refuse(i);
                    if (act == 2) x.lose(i);
                    if (act == 3) x.again(i);
                    allowed[act]++;
                } catch (IllegalStateException e) {
                    Check.yes("by the program", Check.isThrownByTheProgram(e));
                    Check.same("the states as they were", Busy.STATES, Scene.states(x));
                }
            }
        }
        Check.same("give: back alone", 1, allowed[0]);
        Check.same("refuse: 0 to 5", 6, allowed[1]);
        Check.same("lose: in the post alone", 1, allowed[2]);
        Check.same("again: lost alone", 1, allowed[3]);
    }
}
