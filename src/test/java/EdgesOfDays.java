/** The boundary cases of what a day does, desk by desk: promise 22. */
final class EdgesOfDays {
    private EdgesOfDays() {
    }

    static void all() {
        Edge.of("TODAY is a day, 0 at first, 1000 at last.", EdgesOfDays::days0To1000);
        Edge.of("So many DAYS, as far as TODAY may go: TODAY. IllegalArgumentException: not 0 to 60.", EdgesOfDays::daysAre0To60);
        Edge.of("CALLS of a day: of askings in STATE 0 to 5", EdgesOfDays::callsOfStates);
        Edge.of("that came more than PATIENCE days ago, a third of their number, rounded down;", EdgesOfDays::aThirdRoundedDown);
        Edge.of("each takes a UNIT from the desk READ (as far as there are).", EdgesOfDays::callsTakeUnits);
        Edge.of("A DAY: TODAY is one more; all in the POST that come TODAY or came are GOT;", EdgesOfDays::postComes);
        Edge.of("then CALLS are counted; then the desks, 0 to 3, one after the other:", EdgesOfDays::callsThenDesks);
        Edge.of("those that wait there then, in ORDER, as long as its UNITS are enough for the next one "
            + "(the first for which they are not ends it):", EdgesOfDays::firstForWhichUnitsLackEndsIt);
        Edge.of("READ takes 2 UNITS (1 if it was READ before): with LACKS it is BACK, else it waits to be CHECKED;",
            EdgesOfDays::read);
        Edge.of("CHECK takes 3 and RISK:", EdgesOfDays::checkTakes3AndRisk);
        Edge.of("it is REFUSED if its person is NEAR one of PEOPLE and TOLD to be SAME; "
            + "else HELD if it is NEAR one of whom nothing is TOLD;", EdgesOfDays::refusedOrHeld);
        Edge.of("else it waits to be SEEN, if SEE, or RISK is above DOUBT (0 to 1000; 10 at first), else to be PRINTED;",
            EdgesOfDays::doubt);
        Edge.of("SEE takes 6;", EdgesOfDays::seeTakes6);
        Edge.of("PRINT takes 1 and a BLANK (none is left, there are 150 BOOKLETS, or the printers are BROKEN that day: "
            + "nothing is printed):", EdgesOfDays::print);
        Edge.of("a BOOKLET comes, and goes to the POST for so many days (HOME 2, ABROAD 9 at first; 0 to 60; 0: GOT that day).",
            EdgesOfDays::post);
        Edge.of("HELD ones are asked again, as at CHECK but without UNITS, each time something is TOLD (and then alone).",
            EdgesOfDays::heldAskedAgain);
    }

    private static void days0To1000() {
        PassportOffice x = Scene.people(1);
        Check.same("0 at first", 0, x.count(0));
        Check.same("one more", 1, x.days(1));
        Scene.goTo(x, 999);
        Check.same("999", 999, x.count(0));
        Check.same("1000", 1000, x.days(1));
        Check.same("no further", 1000, x.days(1));
        Check.same("by no way", 1000, x.days(60));
        Check.same("1000 at last", 1000, x.count(0));
        x.rules(1, 30, 10, 2, 9);
        for (int i = 0; i < 3; i++) Scene.ask(x, 0, 0);
        x.days(60);
        Check.same("no day goes by", 0, x.count(12));
        Check.same("nothing is read", 3, x.queue(0));
        PassportOffice y = new PassportOffice();
        Scene.goTo(y, 941);
        Check.same("as far as it may go", 1000, y.days(60));
        PassportOffice z = new PassportOffice();
        Scene.goTo(z, 940);
        Check.same("just as far as it may go", 1000, z.days(60));
    }

    private static void daysAre0To60() {
        PassportOffice x = Scene.people(1);
        for (int no : new int[] {-1, 61, Integer.MIN_VALUE, Integer.MAX_VALUE}) Check.argument("days " + no, () -> x.days(no));
        Scene.ask(x, 0, 0);
        Check.same("none", 0, x.days(0));
        Check.same("nothing is read on none", 1, x.queue(0));
        Check.same("60", 60, x.days(60));
        Check.same("59", 119, x.days(59));
        Scene.goTo(x, 1000);
        Check.argument("61 at last", () -> x.days(61));
        Check.argument("-1 at last", () -> x.days(-1));
        Check.same("none at last", 1000, x.days(0));
        // all days that go by are days: three calls a day
        PassportOffice y = Scene.people(1);
        y.rules(1, 30, 10, 2, 9);
        for (int i = 0; i < 9; i++) Scene.ask(y, 0, 0);
        y.days(60);
        Check.same("59 days of 60 are behind patience", 59 * 3, y.count(12));
    }

    /** Three that came on day 0 and stand in a state at the end of day 1; patience is 1. */
    private static PassportOffice threeIn(int state) {
        PassportOffice x = Scene.people(0);
        x.person(-9000, false, 0, 0, 0, 0, 0);
        if (state == 3) x.person(-9000, false, 0, 0, 0, 0, 0);
        if (state > 5) x.blanks(9);
        Check.law(x, 0, state == 1 ? "need deed" : state == 4 ? "see" : "");
        x.rules(1, 30, 10, state == 7 ? 0 : 9, 9);
        for (int desk = 0; desk < 4; desk++) x.hands(desk, 9);
        if (state == 0 || state == 2 || state == 4) x.hands(state / 2, 0);
        for (int i = 0; i < 3; i++) Scene.ask(x, 0, 3);
        x.days(1);
        for (int i = 0; i < 3 && state == 8; i++) x.lose(i);
        return x;
    }

    private static void callsOfStates() {
        for (int state = 0; state < 9; state++) {
            PassportOffice x = threeIn(state);
            Check.same("the state", ("" + state).repeat(3), Scene.states(x));
            Check.same("not yet", 0, x.count(11));
            x.days(1);
            Check.same("calls in state " + state, state <= 5 ? 1 : 0, x.count(11));
        }
        PassportOffice refused = threeIn(0);
        for (int i = 0; i < 3; i++) refused.refuse(i);
        refused.days(1);
        Check.same("calls of refused ones", 0, refused.count(11));
        PassportOffice again = threeIn(8);
        for (int i = 0; i < 3; i++) again.again(i);
        again.days(1);
        Check.same("calls of those that are to be printed again", 1, again.count(11));
        PassportOffice mixed = Busy.office();
        mixed.rules(1, 30, 10, 1, 3);
        mixed.days(1);
        Check.same("a third of the five in state 1 to 5; the one in state 0 came a day ago", 1, mixed.count(11));
    }

    /** How many calls so many askings make on day 2, when they came on day 0 with patience 1. */
    private static int calls(int askings) {
        PassportOffice x = Scene.people(1);
        x.rules(1, 30, 10, 2, 9);
        for (int i = 0; i < askings; i++) Scene.ask(x, 0, 3);
        x.days(2);
        return x.count(11);
    }

    private static void aThirdRoundedDown() {
        int[] due = {0, 0, 0, 1, 1, 1, 2, 2, 2, 3};
        for (int n = 0; n < due.length; n++) Check.same("of " + n, due[n], calls(n));
        Check.same("of all that can be", 40, calls(120));
        PassportOffice x = Scene.people(1);
        x.rules(5, 30, 10, 2, 9);
        Scene.ask(x, 0, 3);
        Scene.ask(x, 0, 3);
        x.days(1);
        Scene.ask(x, 0, 3);
        x.days(5);
        Check.same("day 6: two came six days ago, one five", 0, x.count(11));
        x.days(1);
        Check.same("day 7: all three came more than five days ago", 1, x.count(11));
        Check.same("in all", 1, x.count(12));
    }

    private static void callsTakeUnits() {
        PassportOffice x = Scene.people(1);
        x.rules(1, 30, 10, 2, 9);
        x.hands(0, 0);
        for (int i = 0; i < 9; i++) Scene.ask(x, 0, 3);
        x.days(1);
        x.hands(0, 1);
        x.days(1);
        Check.same("three calls", 3, x.count(11));
        Check.same("5 units: two are read, 1 is left", 7, x.queue(0));
        Check.same("of no other desk: 8 less 6, 8, 8", 1 + 2 + 8 + 8, x.count(14));
        PassportOffice y = Scene.people(1);
        y.rules(1, 30, 10, 2, 9);
        y.hands(0, 0);
        for (int i = 0; i < 24; i++) Scene.ask(y, 0, 3);
        y.days(1);
        y.hands(0, 1);
        y.days(1);
        Check.same("eight calls", 8, y.count(11));
        Check.same("take all 8 units", 24, y.queue(0));
        Check.same("left at the others", 24, y.count(14));
        for (int i = 0; i < 3; i++) Scene.ask(y, 0, 3);
        y.days(2);
        Check.same("nine calls", 9, y.count(11));
        Check.same("take 8: there are no more", 27, y.queue(0));
        Check.same("nothing is taken of the others", 24, y.count(14));
        PassportOffice z = Scene.people(1);
        z.rules(1, 30, 10, 2, 9);
        z.hands(0, 0);
        for (int i = 0; i < 21; i++) Scene.ask(z, 0, 3);
        z.days(1);
        z.hands(0, 1);
        z.days(1);
        Check.same("seven calls leave 1 unit, too few for a reading", 21, z.queue(0));
        Check.same("it is left", 25, z.count(14));
    }

    private static void postComes() {
        PassportOffice x = Scene.ready(1);
        Scene.ask(x, 0, 0);
        Check.same("one more", 1, x.days(1));
        Scene.state("printed on day 1", x, 0, 6);
        x.days(1);
        Scene.state("not the day ahead", x, 0, 6);
        x.days(1);
        Scene.state("on the day it comes", x, 0, 7);
        Check.same("got on it", 3, x.led(0, 13));
        PassportOffice y = Scene.quick(4, "");
        for (int i = 0; i < 4; i++) {
            y.rules(20, 30, 10, 4 - i, 9);
            Scene.ask(y, i, 0);
            y.days(1);
        }
        Check.same("sent on days 1 to 4, all to come on day 5", "6666", Scene.states(y));
        y.rules(20, 30, 10, 60, 60);
        y.days(1);
        Check.same("all that come", "7777", Scene.states(y));
    }

    private static void callsThenDesks() {
        PassportOffice x = Scene.people(1);
        x.rules(1, 30, 10, 9, 9);
        x.hands(1, 2);
        for (int i = 0; i < 3; i++) Scene.ask(x, 0, 3);
        x.days(1);
        Check.same("no blanks", "555", Scene.states(x));
        x.blanks(9);
        x.days(1);
        Check.same("printed that day", "666", Scene.states(x));
        Check.same("they called ahead of it", 1, x.count(11));
        x.days(1);
        Check.same("and do not any more", 0, x.count(11));
        PassportOffice y = Scene.ready(1);
        Check.law(y, 0, "see");
        Scene.ask(y, 0, 0);
        y.days(1);
        Scene.state("through all desks on one day", y, 0, 6);
        Check.same("units left", 6 + 5 + 2 + 7, y.count(14));
        PassportOffice z = Scene.ready(3);
        z.rules(1, 30, 10, 1, 9);
        for (int i = 0; i < 3; i++) Scene.ask(z, i, 0);
        z.days(1);
        z.refuse(2);
        z.days(1);
        Check.same("got ahead of the calls", "779", Scene.states(z));
        Check.same("no calls", 0, z.count(11));
    }

    private static void firstForWhichUnitsLackEndsIt() {
        PassportOffice x = Scene.people(3);
        Check.law(x, 0, "risk 6 if renew;risk 5 if lost");
        Scene.ask(x, 0, 1);
        Scene.ask(x, 1, 0);
        x.days(1);
        Check.same("9 of 8 units: the next one does not go ahead", "22", Scene.states(x));
        Check.same("all 8 are left", 4 + 8 + 8 + 8, x.count(14));
        x.ask(2, 2, 1000, 0, true);
        x.days(1);
        Check.same("8 of 8 units", "225", Scene.states(x));
        Check.same("none is left", 6 + 0 + 8 + 8, x.count(14));
        x.refuse(0);
        x.days(1);
        Check.same("once the first one is gone", "955", Scene.states(x));
        PassportOffice y = Scene.people(1);
        for (int i = 0; i < 3; i++) Scene.ask(y, 0, 3);
        y.ask(0, 3, 1000, 0, true);
        y.lend(0, 1, 1, 1, 1);
        y.days(1);
        Check.same("three of 6 units, the urgent one first", "5205", Scene.states(y));
        PassportOffice z = Scene.people(1);
        Scene.ask(z, 0, 3);
        for (int desk = 0; desk < 4; desk++) z.hands(desk, 0);
        z.days(1);
        Check.same("no units", "0", Scene.states(z));
        Check.same("none is left", 0, z.count(14));
    }

    private static void read() {
        PassportOffice x = Scene.people(1);
        Check.law(x, 0, "need deed");
        x.lend(0, 3, 1, 1, 1);
        for (int i = 0; i < 3; i++) x.ask(0, 3, 1000, i, false);
        x.days(1);
        Check.same("2 units are enough for one", "100", Scene.states(x));
        Check.same("none is left", 0 + 8 + 8 + 8, x.count(14));
        x.days(1);
        Check.same("the others: one with all, one that lacks", "151", Scene.states(x));
        x.give(0, 1);
        x.give(2, 1);
        x.lend(0, 3, 3, 3, 1);
        x.days(1);
        Check.same("2 units are enough for two that were read before", "555", Scene.states(x));
        Check.same("none is left", 0 + 2 + 8 + 8, x.count(14));
        // 1 unit: patience 1, three calls of nine, three in training
        for (int fresh = 0; fresh < 2; fresh++) {
            PassportOffice y = Scene.people(1);
            Check.law(y, 0, "need deed");
            y.rules(1, 30, 10, 2, 9);
            for (int i = 0; i < 3; i++) Scene.ask(y, 0, 3);
            y.days(1);
            Check.same("back", "111", Scene.states(y));
            y.give(0, 1);
            y.lend(0, 3, 2, 2, 1);
            if (fresh == 1) y.ask(0, 3, 1000, 1, true);
            y.days(1);
            Check.same("1 call", 1, y.count(11));
            Check.same("1 unit is enough for one that was read before, and that one alone",
                fresh == 0 ? "511" : "0110", Scene.states(y));
        }
    }

    /** The state behind a day at a check with so many units, of one with a risk. */
    private static int checked(int risk, int hands, int training) {
        PassportOffice x = Scene.people(1);
        Check.law(x, 0, "risk " + risk);
        x.rules(20, 30, 1000, 2, 9);
        x.hands(1, hands);
        if (training > 0) x.lend(1, training, 1, 1, 1);
        Scene.ask(x, 0, 0);
        x.days(1);
        return x.led(0, 0);
    }

    private static void checkTakes3AndRisk() {
        Check.same("risk 0, 4 units", 5, checked(0, 1, 2));
        Check.same("risk 0, 2 units", 2, checked(0, 1, 3));
        Check.same("risk 1, 4 units", 5, checked(1, 1, 2));
        Check.same("risk 2, 4 units", 2, checked(2, 1, 2));
        Check.same("risk 5, 8 units", 5, checked(5, 1, 0));
        Check.same("risk 6, 8 units", 2, checked(6, 1, 0));
        Check.same("risk 237, 240 units", 5, checked(237, 30, 0));
        Check.same("risk 238, 240 units", 2, checked(238, 30, 0));
        Check.same("risk 0, no units", 2, checked(0, 0, 0));
        PassportOffice x = Scene.people(1);
        for (int i = 0; i < 3; i++) Scene.ask(x, 0, 3);
        x.days(1);
        Check.same("two of 3 units, 2 are left", "552", Scene.states(x));
        Check.same("units left", 2 + 2 + 8 + 8, x.count(14));
    }

    /** One at a, and others near it: s told to be the same, o another one, n not told; f far, but told to be the same. */
    private static int nearOnes(String others) {
        PassportOffice x = Scene.people(0);
        x.person(-9000, false, 50, 0, 0, 0, 0);
        for (int i = 0; i < others.length(); i++) {
            char other = others.charAt(i);
            x.person(-9000, false, other == 'f' ? 0 : 50, other == 'f' ? 0 : i + 1, 0, 0, 0);
            if (other != 'n') x.tell(0, i + 1, other != 'o');
        }
        Scene.ask(x, 0, 0);
        x.days(1);
        return x.led(0, 0);
    }

    private static void refusedOrHeld() {
        Check.same("nobody", 5, nearOnes(""));
        Check.same("same", 9, nearOnes("s"));
        Check.same("other", 5, nearOnes("o"));
        Check.same("not told", 3, nearOnes("n"));
        Check.same("far and the same", 5, nearOnes("f"));
        Check.same("same goes ahead of not told", 9, nearOnes("ns"));
        Check.same("same goes ahead of not told", 9, nearOnes("sn"));
        Check.same("one of two is not told", 3, nearOnes("on"));
        Check.same("one of two is not told", 3, nearOnes("no"));
        Check.same("one of two is the same", 9, nearOnes("os"));
        Check.same("one of two is the same", 9, nearOnes("so"));
        Check.same("all are others", 5, nearOnes("ooo"));
        Check.same("the last of three", 3, nearOnes("oon"));
        Check.same("the far one does not count", 3, nearOnes("fn"));
        PassportOffice x = Scene.quick(0, "see");
        for (int i = 0; i < 3; i++) x.person(-9000, false, 50, i, 0, 0, 0);
        x.tell(1, 2, true);
        Scene.ask(x, 0, 0);
        x.days(1);
        Scene.state("what is told of two others is not of this one", x, 0, 3);
        x.days(9);
        Scene.state("it stays held", x, 0, 3);
        Check.same("a held one takes units once", 240 * 4, x.count(14));
    }

    private static int doubted(int doubt, String law) {
        PassportOffice x = Scene.people(1);
        Check.law(x, 0, law);
        if (doubt >= 0) x.rules(20, 30, doubt, 2, 9);
        x.hands(1, 30);
        x.hands(2, 0);
        for (int i = 0; i < 5; i++) x.lend(1, 30, 1, 1, 0);
        Scene.ask(x, 0, 0);
        x.days(1);
        return x.led(0, 0);
    }

    private static void doubt() {
        Check.same("10 at first, risk 10", 5, doubted(-1, "risk 10"));
        Check.same("10 at first, risk 11", 4, doubted(-1, "risk 11"));
        Check.same("doubt 0, risk 0", 5, doubted(0, "risk 0"));
        Check.same("doubt 0, risk 1", 4, doubted(0, "risk 1"));
        Check.same("doubt 1000, risk 1000", 5, doubted(1000, "risk 1000"));
        Check.same("doubt 1000, risk 1001", 4, doubted(1000, "risk 1001"));
        Check.same("see, risk 0", 4, doubted(1000, "see"));
        Check.same("see, and risk above doubt", 4, doubted(0, "see;risk 1"));
        Check.same("neither", 5, doubted(-1, ""));
        PassportOffice x = Scene.people(1);
        Check.argument("doubt -1", () -> x.rules(20, 30, -1, 2, 9));
        Check.argument("doubt 1001", () -> x.rules(20, 30, 1001, 2, 9));
        Check.law(x, 0, "risk 4");
        Scene.ask(x, 0, 0);
        x.rules(20, 30, 3, 2, 9);
        x.hands(2, 0);
        x.days(1);
        Scene.state("the doubt of the day of the check", x, 0, 4);
        x.rules(20, 30, 4, 2, 9);
        x.days(1);
        Scene.state("once it waits to be seen it does", x, 0, 4);
    }

    private static void seeTakes6() {
        for (int training = 0; training < 3; training++) {
            PassportOffice x = Scene.people(2);
            Check.law(x, 0, "see");
            if (training > 0) x.lend(2, training, 1, 1, 1);
            Scene.ask(x, 0, 0);
            Scene.ask(x, 1, 0);
            x.days(1);
            Check.same("of " + (8 - 2 * training) + " units", training < 2 ? "54" : "44", Scene.states(x));
            int[] left = {2, 0, 4};
            Check.same("units left", 4 + 2 + left[training] + 8, x.count(14));
        }
        PassportOffice y = Scene.quick(1, "see");
        y.hands(2, 3);
        for (int i = 0; i < 5; i++) Scene.ask(y, 0, 3);
        y.days(1);
        Check.same("four of 24 units", "66664", Scene.states(y));
    }

    private static void print() {
        PassportOffice x = Scene.people(1);
        for (int desk = 0; desk < 3; desk++) x.hands(desk, 30);
        x.blanks(20);
        for (int i = 0; i < 9; i++) Scene.ask(x, 0, 3);
        x.days(1);
        Check.same("eight of 8 units", "666666665", Scene.states(x));
        Check.same("twelve blanks are left", 12, x.count(8));
        x.hands(3, 0);
        x.days(1);
        Check.same("no units", 1, x.queue(3));
        PassportOffice y = Scene.people(1);
        for (int i = 0; i < 2; i++) Scene.ask(y, 0, 3);
        y.days(1);
        Check.same("no blank", "55", Scene.states(y));
        Check.same("no unit is taken", 4 + 2 + 8 + 8, y.count(14));
        y.blanks(1);
        y.days(1);
        Check.same("one blank", "65", Scene.states(y));
        Check.same("none is left", 0, y.count(8));
        Check.same("one unit is taken", 8 + 8 + 8 + 7, y.count(14));
        y.blanks(5);
        y.broken(3, 3);
        y.days(1);
        Check.same("broken that day", "65", Scene.states(y));
        Check.same("no unit is taken", 32, y.count(14));
        Check.same("no blank is taken", 5, y.count(8));
        y.days(1);
        Check.same("the day behind", "76", Scene.states(y));
        printUpTo150();
    }

    private static void printUpTo150() {
        PassportOffice x = Full.booklets(149);
        Check.same("149", 149, x.count(7));
        x.lose(0);
        x.lose(1);
        x.again(0);
        x.again(1);
        int blanks = x.count(8);
        x.days(1);
        Check.same("the 150th", 150, x.count(7));
        Scene.state("is the first one's", x, 0, 6);
        Scene.state("no 151st", x, 1, 5);
        Check.same("one blank", blanks - 1, x.count(8));
        x.days(1);
        Scene.state("nor later", x, 1, 5);
        Check.same("no unit is taken", 960, x.count(14));
        Check.same("150 still", 150, x.count(7));
    }

    private static void post() {
        PassportOffice x = Scene.quick(1, "");
        x.person(-9000, true, 0, 90, 0, 0, 0);
        Scene.ask(x, 0, 0);
        Scene.ask(x, 1, 0);
        x.days(2);
        Check.same("home 2: not on day 2", "66", Scene.states(x));
        x.days(1);
        Check.same("home 2: on day 3", "76", Scene.states(x));
        x.days(6);
        Check.same("abroad 9: not on day 9", "76", Scene.states(x));
        x.days(1);
        Check.same("abroad 9: on day 10", "77", Scene.states(x));
        for (int who = 0; who < 2; who++) {
            for (int way : new int[] {0, 1, 60}) {
                PassportOffice y = Scene.quick(1, "");
                y.person(-9000, true, 0, 90, 0, 0, 0);
                y.rules(20, 30, 10, who == 0 ? way : 5, who == 1 ? way : 5);
                Scene.ask(y, who, 0);
                y.days(1);
                Scene.state("on the day it is printed", y, 0, way == 0 ? 7 : 6);
                Check.same("it comes", 1 + way, y.led(0, 14));
                Check.same("got that day, or not yet", way == 0 ? 1 : -1, y.led(0, 13));
                if (way > 1) y.days(way - 1);
                Scene.state("not the day ahead", y, 0, way == 0 ? 7 : 6);
                y.days(1);
                Scene.state("got", y, 0, 7);
                Check.same("that day", 1 + way, y.led(0, 13));
            }
        }
        PassportOffice z = Scene.people(1);
        for (int no : new int[] {-1, 61}) {
            Check.argument("home " + no, () -> z.rules(20, 30, 10, no, 9));
            Check.argument("abroad " + no, () -> z.rules(20, 30, 10, 2, no));
        }
    }

    private static void heldAskedAgain() {
        PassportOffice x = Scene.ready(0);
        for (int i = 0; i < 3; i++) x.person(-9000, false, 50, i, 0, 0, 0);
        Check.law(x, 0, "risk 5");
        Scene.ask(x, 0, 0);
        x.days(1);
        Scene.state("held", x, 0, 3);
        x.days(9);
        Scene.state("not by days", x, 0, 3);
        x.rules(20, 0, 10, 2, 9);
        x.days(1);
        Scene.state("nor by rules, though none is near now", x, 0, 3);
        x.hands(1, 0);
        Check.same("by telling something of two others", 1, x.tell(1, 2, true));
        Scene.state("without units", x, 0, 5);
        PassportOffice y = Scene.quick(0, "risk 5");
        for (int i = 0; i < 2; i++) y.person(-9000, false, 50, i, 0, 0, 0);
        Scene.ask(y, 0, 0);
        Scene.ask(y, 1, 3);
        y.days(1);
        y.rules(20, 30, 4, 2, 9);
        Check.same("both are free", 2, y.tell(0, 1, false));
        Check.same("risk above the doubt of now", "44", Scene.states(y));
        Check.same("seen and printed another day", 0, y.count(7));
        y.tell(0, 1, true);
        Check.same("those that are not held are not asked", "44", Scene.states(y));
        PassportOffice z = Scene.quick(0, "");
        for (int i = 0; i < 3; i++) z.person(-9000, false, 50, i, 0, 0, 0);
        for (int i = 0; i < 3; i++) Scene.ask(z, i, 0);
        z.days(1);
        Check.same("none is free: each is near another one that is not told", 0, z.tell(0, 1, false));
        Check.same("one is free", 1, z.tell(0, 2, false));
        Check.same("held still", "533", Scene.states(z));
        Check.same("the same telling again asks again, and frees none", 0, z.tell(0, 2, false));
        Check.same("two are refused", 2, z.tell(1, 2, true));
        Check.same("refused", "599", Scene.states(z));
    }
}
