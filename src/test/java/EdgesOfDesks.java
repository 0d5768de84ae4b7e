/** The boundary cases of desks, hands and what is told of them: promises 15 to 21, 27 and 28. */
final class EdgesOfDesks {
    private EdgesOfDesks() {
    }

    static void all() {
        Edge.of("DESKS 0 READ, 1 CHECK, 2 SEE, 3 PRINT.", EdgesOfDesks::fourDesks);
        Edge.of("HANDS (0 to 30 each; 1 at first): 8 UNITS each a day.", EdgesOfDesks::handsAre0To30);
        Edge.of("LENT (at most 20): to a desk so many (1 to 30)", EdgesOfDesks::lentAreAtMost20);
        Edge.of("from a day to another one (both too), to be trained so many days (0 to 30) first: "
            + "on the first so many of these days each takes 2 UNITS from its desk", EdgesOfDesks::lentAndTrained);
        Edge.of("(there are never fewer than 0),", EdgesOfDesks::neverFewerThan0);
        Edge.of("on the others each gives 8.", EdgesOfDesks::lentGive8);
        Edge.of("PATIENCE (1 to 200; 20 at first):", EdgesOfDesks::patience);
        Edge.of("ORDER at a desk: urgent ones first; then by rule 0 by the day of coming, 1 by WANTED, "
            + "2 those that gave a ticket first, then by WANTED; of several alike by number. (Rule 0 at first.)",
            EdgesOfDesks::order);
        Edge.of("HANDS of a DESK. IllegalArgumentException: they are none.", EdgesOfDesks::exceptionsOfHands);
        Edge.of("LENT: how many tellings there are; NONE, and it is not told, if there are 20.", EdgesOfDesks::tellingsOfLent);
        Edge.of("IllegalArgumentException: a number is none (from is TODAY or later; to not ahead of it, 1000 at most).",
            EdgesOfDesks::exceptionsOfLend);
        Edge.of("UNITS of a DESK on a day (CALLS not taken off): 0 at least.", EdgesOfDesks::unitsOfADay);
        Edge.of("PATIENCE, LIMIT, DOUBT, days of the POST at HOME and ABROAD. IllegalArgumentException: one is none.",
            EdgesOfDesks::rules);
        Edge.of("The rule of ORDER. IllegalArgumentException: it is none.", EdgesOfDesks::ruleOfOrder);
        Edge.of("BLANKS come: how many there are. IllegalArgumentException: not 0 to 1000, or there would be more than 10000.",
            EdgesOfDesks::blanks);
        Edge.of("The printers are BROKEN from a day to another one (both too; told anew in place of what was). "
            + "IllegalArgumentException: the one is above the other.", EdgesOfDesks::broken);
        Edge.of("How many wait at a DESK.", EdgesOfDesks::queue);
        Edge.of("How many are ahead of an asking at its DESK by the rule of now; NONE, if it waits at none.", EdgesOfDesks::ahead);
    }

    private static final int LEAST = Integer.MIN_VALUE;
    private static final int GREATEST = Integer.MAX_VALUE;

    private static void fourDesks() {
        PassportOffice x = Scene.people(1);
        for (int no : new int[] {-1, 4, LEAST, GREATEST}) {
            Check.index("hands", () -> x.hands(no, 1));
            Check.index("lend", () -> x.lend(no, 1, 0, 0, 0));
            Check.index("units", () -> x.units(no, 0));
            Check.index("queue", () -> x.queue(no));
        }
        Check.law(x, 0, "see");
        Scene.ask(x, 0, 0);
        for (int desk = 1; desk < 4; desk++) x.hands(desk, 0);
        for (int desk = 0; desk < 4; desk++) {
            x.hands(desk, 1);
            for (int other = 0; other < 4; other++) {
                Check.same("desk " + other + ", when it waits at " + desk, other == desk ? 1 : 0, x.queue(other));
            }
            x.days(1);
        }
        Scene.state("behind the last desk, without a blank", x, 0, 5);
    }

    private static void handsAre0To30() {
        PassportOffice x = new PassportOffice();
        for (int desk = 0; desk < 4; desk++) {
            Check.same("1 at first", 8, x.units(desk, 0));
            x.hands(desk, 0);
            Check.same("0", 0, x.units(desk, 0));
            x.hands(desk, 30);
            Check.same("30", 240, x.units(desk, 0));
            x.hands(desk, 7);
            Check.same("7", 56, x.units(desk, 1000));
        }
        for (int desk = 0; desk < 4; desk++) Check.same("of that desk alone", 56, x.units(desk, 0));
        // 8 units are four readings, none is left
        PassportOffice y = Scene.people(1);
        for (int i = 0; i < 5; i++) Scene.ask(y, 0, 3);
        y.days(1);
        Check.same("the fifth waits", 1, y.queue(0));
        y.hands(0, 0);
        y.days(1);
        Check.same("no hands, no units", 1, y.queue(0));
    }

    private static void lentAreAtMost20() {
        PassportOffice x = new PassportOffice();
        Check.argument("0", () -> x.lend(2, 0, 5, 5, 0));
        Check.argument("31", () -> x.lend(2, 31, 5, 5, 0));
        Check.same("1", 1, x.lend(2, 1, 5, 5, 0));
        Check.same("one gives 8", 16, x.units(2, 5));
        Check.same("30", 2, x.lend(2, 30, 6, 6, 0));
        Check.same("thirty give 240", 248, x.units(2, 6));
        for (int i = 3; i <= 20; i++) Check.same("tellings", i, x.lend(i % 4, 30, 7, 7, 0));
        Check.same("a 21st", -1, x.lend(0, 1, 7, 7, 0));
        Check.same("20", 20, x.count(13));
        int[] due = {8 + 5 * 240, 8 + 4 * 240, 8 + 4 * 240, 8 + 5 * 240};
        for (int desk = 0; desk < 4; desk++) Check.same("desk " + desk, due[desk], x.units(desk, 7));
        Scene.goTo(x, 1000);
        Check.same("those that are over count too", -1, x.lend(0, 1, 1000, 1000, 0));
    }

    private static void units(PassportOffice x, int desk, int from, int... due) {
        for (int i = 0; i < due.length; i++) {
            Check.same("units of desk " + desk + " on day " + (from + i), due[i], x.units(desk, from + i));
        }
    }

    private static void lentAndTrained() {
        PassportOffice x = new PassportOffice();
        x.lend(0, 1, 5, 8, 0);
        units(x, 0, 4, 8, 16, 16, 16, 16, 8);
        x.lend(1, 1, 5, 8, 1);
        units(x, 1, 4, 8, 6, 16, 16, 16, 8);
        x.lend(2, 1, 5, 8, 3);
        units(x, 2, 4, 8, 6, 6, 6, 16, 8);
        x.lend(3, 1, 5, 8, 4);
        units(x, 3, 4, 8, 6, 6, 6, 6, 8);
        PassportOffice y = new PassportOffice();
        y.lend(0, 1, 0, 31, 30);
        Check.same("the first of 30 days", 6, y.units(0, 0));
        Check.same("the 30th", 6, y.units(0, 29));
        units(y, 0, 30, 16, 16, 8);
        y.lend(1, 1, 7, 7, 0);
        units(y, 1, 6, 8, 16, 8);
        y.lend(2, 1, 7, 7, 1);
        units(y, 2, 6, 8, 6, 8);
        y.lend(3, 1, 1000, 1000, 0);
        units(y, 3, 999, 8, 16, 8);
        y.lend(3, 1, 0, 1000, 30);
        units(y, 3, 28, 6, 6, 16, 16);
        Check.same("none is left the day ahead of the first", 8, y.units(3, -1));
        Check.same("both", 24, y.units(3, 1000));
        Check.same("none of both", 8, y.units(3, 1001));
    }

    private static void neverFewerThan0() {
        PassportOffice x = new PassportOffice();
        x.lend(0, 3, 1, 1, 1);
        Check.same("8 less 6", 2, x.units(0, 1));
        x.lend(0, 1, 1, 1, 1);
        Check.same("8 less 8", 0, x.units(0, 1));
        x.lend(0, 1, 1, 1, 1);
        Check.same("8 less 10", 0, x.units(0, 1));
        x.hands(0, 0);
        Check.same("0 less 10", 0, x.units(0, 1));
        x.lend(0, 1, 1, 1, 0);
        Check.same("0 less 10 and 8", 0, x.units(0, 1));
        x.lend(0, 1, 1, 1, 0);
        Check.same("0 less 10 and 16", 6, x.units(0, 1));
        PassportOffice y = Scene.people(2);
        y.hands(0, 0);
        y.lend(0, 30, 1, 1, 30);
        Scene.ask(y, 0, 0);
        y.days(1);
        Check.same("none to read with", 1, y.queue(0));
        Check.same("left at the others alone", 24, y.count(14));
        y.hands(0, 1);
        y.days(1);
        Check.same("nothing is owed for the day behind", 0, y.queue(0));
    }

    private static void lentGive8() {
        PassportOffice x = new PassportOffice();
        x.hands(2, 0);
        x.lend(2, 30, 3, 4, 1);
        units(x, 2, 2, 0, 0, 240, 0);
        x.lend(2, 2, 4, 5, 0);
        units(x, 2, 2, 0, 0, 256, 16, 0);
        x.lend(2, 5, 4, 5, 1);
        units(x, 2, 2, 0, 0, 246, 56, 0);
        PassportOffice y = Scene.people(1);
        y.hands(0, 0);
        y.lend(0, 1, 2, 2, 0);
        for (int i = 0; i < 5; i++) Scene.ask(y, 0, 3);
        y.days(1);
        Check.same("nobody yet", 5, y.queue(0));
        y.days(1);
        Check.same("four by one that is lent", 1, y.queue(0));
        y.days(1);
        Check.same("nobody any more", 1, y.queue(0));
    }

    private static void rulesOf(PassportOffice x, int which, int number) {
        int[] n = {20, 30, 10, 2, 9};
        n[which] = number;
        x.rules(n[0], n[1], n[2], n[3], n[4]);
    }

    /** How many calls three askings make so many days behind their coming. */
    private static int callsAfter(int patience, int days) {
        PassportOffice x = Scene.people(1);
        if (patience > 0) rulesOf(x, 0, patience);
        for (int i = 0; i < 3; i++) Scene.ask(x, 0, 3);
        Scene.goTo(x, days);
        return x.count(11);
    }

    private static void patience() {
        Check.same("20 at first", 0, callsAfter(0, 20));
        Check.same("20 at first", 1, callsAfter(0, 21));
        Check.same("1", 0, callsAfter(1, 1));
        Check.same("1", 1, callsAfter(1, 2));
        Check.same("200", 0, callsAfter(200, 200));
        Check.same("200", 1, callsAfter(200, 201));
        PassportOffice x = new PassportOffice();
        for (int no : new int[] {0, 201, -1, LEAST, GREATEST}) Check.argument("patience " + no, () -> rulesOf(x, 0, no));
    }

    private static void aheads(String what, PassportOffice x, int... due) {
        for (int i = 0; i < due.length; i++) Check.same(what + ": ahead of " + i, due[i], x.ahead(i));
    }

    /** Eight that wait to be read on day 1: of two days, urgent or not, with a ticket or not. */
    private static PassportOffice eight() {
        PassportOffice x = Scene.people(1);
        x.hands(0, 0);
        x.ask(0, 3, 9, 0, false);
        x.ask(0, 3, 8, 64, false);
        x.ask(0, 3, 9, 191, true);
        x.days(1);
        x.ask(0, 3, 7, 0, false);
        x.ask(0, 3, 8, 0, false);
        x.ask(0, 3, 7, 0, true);
        x.ask(0, 3, 9, 255, false);
        x.ask(0, 3, 9, 64, true);
        return x;
    }

    private static void order() {
        int[][] due = {{3, 4, 0, 5, 6, 1, 7, 2}, {6, 4, 1, 3, 5, 0, 7, 2}, {7, 3, 2, 5, 6, 1, 4, 0}};
        aheads("rule 0 at first", eight(), due[0]);
        for (int rule = 0; rule < 3; rule++) {
            PassportOffice x = eight();
            x.order(rule);
            aheads("rule " + rule, x, due[rule]);
            x.hands(0, 1);
            x.days(1);
            for (int i = 0; i < 8; i++) {
                Check.same("rule " + rule + ": the first four are read, not " + i, due[rule][i] < 4 ? 2 : -1, x.led(i, 12));
            }
        }
        PassportOffice y = Scene.people(1);
        Check.law(y, 0, "need deed if renew");
        y.order(2);
        y.ask(0, 1, 9, 0, false);
        y.days(1);
        y.ask(0, 0, 8, 0, false);
        y.give(0, 1);
        Check.same("by wanted", 1, y.ahead(0));
        y.refuse(0);
        y.ask(0, 1, 9, 0, false);
        y.days(1);
        y.ask(0, 0, 8, 0, false);
        y.give(2, 65);
        Check.same("a ticket that was given later", 0, y.ahead(2));
    }

    private static void exceptionsOfHands() {
        PassportOffice x = new PassportOffice();
        for (int no : new int[] {-1, 31, LEAST, GREATEST}) {
            Check.argument("hands " + no, () -> x.hands(1, no));
            Check.index("the desk goes ahead", () -> x.hands(4, no));
            Check.index("the desk goes ahead", () -> x.hands(-1, no));
        }
        Check.same("as it was", 8, x.units(1, 0));
    }

    private static void tellingsOfLent() {
        PassportOffice x = new PassportOffice();
        for (int i = 1; i <= 20; i++) Check.same("tellings", i, x.lend(0, 1, 9, 9, 0));
        Check.same("a 21st", -1, x.lend(0, 1, 9, 9, 0));
        Check.same("at another desk", -1, x.lend(3, 1, 9, 9, 0));
        Check.same("it is not told", 168, x.units(0, 9));
        Check.same("it is not told", 8, x.units(3, 9));
        Check.same("20 still", 20, x.count(13));
        Check.index("a wrong desk is thrown all the same", () -> x.lend(4, 1, 9, 9, 0));
        Check.argument("a wrong number, too", () -> x.lend(0, 0, 9, 9, 0));
        Check.argument("a wrong day, too", () -> x.lend(0, 1, 9, 8, 0));
    }

    private static void exceptionsOfLend() {
        PassportOffice x = new PassportOffice();
        x.days(5);
        Check.argument("from yesterday", () -> x.lend(1, 1, 4, 9, 0));
        Check.argument("to ahead of from", () -> x.lend(1, 1, 9, 8, 0));
        Check.argument("to behind the last day", () -> x.lend(1, 1, 9, 1001, 0));
        Check.argument("both behind the last day", () -> x.lend(1, 1, 1001, 1001, 0));
        Check.argument("n 0", () -> x.lend(1, 0, 9, 9, 0));
        Check.argument("n 31", () -> x.lend(1, 31, 9, 9, 0));
        Check.argument("training -1", () -> x.lend(1, 1, 9, 9, -1));
        Check.argument("training 31", () -> x.lend(1, 1, 9, 9, 31));
        for (int odd : new int[] {LEAST, GREATEST}) {
            Check.argument("n", () -> x.lend(1, odd, 9, 9, 0));
            Check.argument("from", () -> x.lend(1, 1, odd, 9, 0));
            Check.argument("to", () -> x.lend(1, 1, 9, odd, 0));
            Check.argument("training", () -> x.lend(1, 1, 9, 9, odd));
        }
        Check.index("the desk goes ahead", () -> x.lend(4, 0, 4, 3, 31));
        Check.index("the desk goes ahead", () -> x.lend(-1, 31, 4, 1001, -1));
        Check.same("none is told", 0, x.count(13));
        Check.same("from today to today", 1, x.lend(1, 1, 5, 5, 0));
        Check.same("from today to the last day", 2, x.lend(1, 30, 5, 1000, 30));
        Check.same("the last day alone", 3, x.lend(1, 1, 1000, 1000, 0));
    }

    private static void unitsOfADay() {
        PassportOffice x = new PassportOffice();
        for (int day : new int[] {LEAST, -1, 0, 1000, 1001, GREATEST}) Check.same("day " + day, 8, x.units(2, day));
        x.lend(2, 30, 0, 1000, 30);
        Check.same("the day ahead", 8, x.units(2, -1));
        Check.same("0 at least", 0, x.units(2, 0));
        Check.same("the last day", 248, x.units(2, 1000));
        Check.same("the day behind", 8, x.units(2, 1001));
        Check.same("the least", 8, x.units(2, LEAST));
        Check.same("the greatest", 8, x.units(2, GREATEST));
        Check.index("desk 4", () -> x.units(4, 0));
        Check.index("desk -1", () -> x.units(-1, LEAST));
        PassportOffice y = Scene.people(1);
        rulesOf(y, 0, 1);
        for (int i = 0; i < 9; i++) Scene.ask(y, 0, 3);
        y.days(2);
        Check.same("three called", 3, y.count(11));
        Check.same("not taken off", 8, y.units(0, 2));
    }

    private static void rules() {
        PassportOffice x = Scene.people(1);
        int[] least = {1, 0, 0, 0, 0};
        int[] most = {200, 10000, 1000, 60, 60};
        for (int i = 0; i < 5; i++) {
            int which = i;
            rulesOf(x, i, least[i]);
            rulesOf(x, i, most[i]);
            Check.argument("too small", () -> rulesOf(x, which, least[which] - 1));
            Check.argument("too great", () -> rulesOf(x, which, most[which] + 1));
            Check.argument("the least number", () -> rulesOf(x, which, LEAST));
            Check.argument("the greatest number", () -> rulesOf(x, which, GREATEST));
        }
        x.rules(1, 0, 0, 0, 0);
        x.rules(200, 10000, 1000, 60, 60);
        PassportOffice y = Scene.ready(2);
        y.person(-9000, true, 0, 90, 0, 0, 0);
        rulesOf(y, 3, 60);
        Check.argument("one of five is none", () -> y.rules(1, 0, 0, 0, 61));
        Check.argument("one of five is none", () -> y.rules(1, 0, 0, 61, 0));
        Check.argument("one of five is none", () -> y.rules(1, 0, 1001, 0, 0));
        Check.argument("one of five is none", () -> y.rules(1, 10001, 0, 0, 0));
        Check.argument("one of five is none", () -> y.rules(201, 0, 0, 0, 0));
        Scene.ask(y, 0, 0);
        Scene.ask(y, 2, 0);
        y.days(1);
        Check.same("none of the others is told: home", 61, y.led(0, 14));
        Check.same("none of the others is told: abroad", 10, y.led(1, 14));
        rulesOf(y, 4, 60);
        Check.same("those on their way go as they went", 10, y.led(1, 14));
        Scene.ask(y, 2, 0);
        y.days(1);
        Check.same("abroad 60", 62, y.led(2, 14));
    }

    private static void ruleOfOrder() {
        PassportOffice x = Scene.people(1);
        x.ask(0, 3, 9, 0, false);
        x.ask(0, 3, 8, 0, false);
        x.ask(0, 3, 9, 64, false);
        x.order(2);
        for (int no : new int[] {-1, 3, LEAST, GREATEST}) Check.argument("rule " + no, () -> x.order(no));
        aheads("rule 2 still", x, 2, 1, 0);
        x.order(1);
        aheads("rule 1", x, 1, 0, 2);
        x.order(0);
        aheads("rule 0", x, 0, 1, 2);
    }

    private static void blanks() {
        PassportOffice x = Scene.people(1);
        for (int no : new int[] {-1, 1001, LEAST, GREATEST}) Check.argument("blanks " + no, () -> x.blanks(no));
        Check.same("0", 0, x.blanks(0));
        Check.same("1", 1, x.blanks(1));
        for (int i = 1; i < 10; i++) Check.same("1000", 1000 * i + 1, x.blanks(1000));
        Check.argument("10001", () -> x.blanks(1000));
        Check.same("9001 still", 9001, x.count(8));
        Check.same("10000", 10000, x.blanks(999));
        Check.argument("10001", () -> x.blanks(1));
        Check.same("none more", 10000, x.blanks(0));
        Scene.ask(x, 0, 0);
        x.days(1);
        Check.argument("10001 behind one that is used", () -> x.blanks(2));
        Check.same("10000 behind one that is used", 10000, x.blanks(1));
    }

    /** On which of the days 1 to 6 one is printed, a digit each. */
    private static String printed(PassportOffice x) {
        StringBuilder text = new StringBuilder();
        for (int day = 1; day <= 6; day++) {
            int before = x.count(7);
            Scene.ask(x, 0, 3);
            x.days(1);
            if (x.count(7) > before) text.append(day);
        }
        return text.toString();
    }

    private static void broken() {
        PassportOffice x = Scene.ready(1);
        Check.same("never at first", "123456", printed(x));
        PassportOffice y = Scene.ready(1);
        y.broken(2, 4);
        Check.same("from and to too", "156", printed(y));
        PassportOffice z = Scene.ready(1);
        z.broken(3, 3);
        Check.same("one day", "12456", printed(z));
        PassportOffice v = Scene.ready(1);
        v.broken(1, 3);
        v.broken(5, 9);
        Check.argument("above", () -> v.broken(4, 3));
        Check.argument("far above", () -> v.broken(GREATEST, LEAST));
        Check.same("in place of what was", "1234", printed(v));
        PassportOffice w = Scene.ready(1);
        w.broken(LEAST, GREATEST);
        Check.same("all days", "", printed(w));
        w.broken(LEAST, 0);
        w.days(1);
        Check.same("days that were", 6, w.count(7));
        PassportOffice u = Scene.ready(1);
        u.broken(4, GREATEST);
        Check.same("from day 4 on", "123", printed(u));
    }

    private static void queue() {
        PassportOffice x = new PassportOffice();
        x.person(0, false, 0, 0, 0, 0, 0);
        for (int desk = 0; desk < 4; desk++) Check.same("nobody", 0, x.queue(desk));
        for (int i = 1; i <= 120; i++) {
            Scene.ask(x, 0, 0);
            Check.same("that many", i, x.queue(0));
        }
        x.refuse(0);
        Check.same("one fewer", 119, x.queue(0));
        PassportOffice y = Busy.office();
        for (int desk = 0; desk < 4; desk++) Check.same("one each: not the held, nor those that are back", 1, y.queue(desk));
        Check.index("desk 4", () -> y.queue(4));
        Check.index("desk -1", () -> y.queue(-1));
    }

    private static void ahead() {
        PassportOffice x = Busy.office();
        for (int i = 0; i < Busy.STATES.length(); i++) {
            boolean waits = "0245".indexOf(Busy.STATES.charAt(i)) >= 0;
            Check.same("state " + Busy.STATES.charAt(i), waits ? 0 : -1, x.ahead(i));
        }
        Check.index("asking 10", () -> x.ahead(10));
        Check.index("asking -1", () -> x.ahead(-1));
        Check.index("the least number", () -> x.ahead(LEAST));
        Check.index("the greatest number", () -> x.ahead(GREATEST));
        PassportOffice y = Scene.people(1);
        y.ask(0, 0, 9, 0, false);
        y.ask(0, 0, 8, 0, false);
        Check.same("by coming", 1, y.ahead(1));
        y.order(1);
        Check.same("by the rule of now", 0, y.ahead(1));
        Check.same("by the rule of now", 1, y.ahead(0));
        y.hands(1, 0);
        y.days(1);
        y.ask(0, 0, 7, 0, true);
        Check.same("those at another desk are not ahead", 0, y.ahead(1));
        Check.same("nor of the new one", 0, y.ahead(2));
    }
}
