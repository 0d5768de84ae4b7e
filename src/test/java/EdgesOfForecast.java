/** The boundary cases of what would be missed, of waits and of counts: promises 31, 32 and 34. */
final class EdgesOfForecast {
    private static final int LEAST = Integer.MIN_VALUE;
    private static final int GREATEST = Integer.MAX_VALUE;

    private EdgesOfForecast() {
    }

    static void all() {
        Edge.of("MISSED by a rule over n days: if n more DAYS went by from now with that rule, and nothing else was told:",
            EdgesOfForecast::nMoreDays);
        Edge.of("how many askings in STATE 0 to 6 now would not be GOT by their WANTED, for WANTED up to TODAY and n.",
            EdgesOfForecast::wantedUpToTodayAndN);
        Edge.of("(Nothing changes by it.)", EdgesOfForecast::nothingChanges);
        Edge.of("MISSED. IllegalArgumentException: the rule is none, or n is not 0 to 60.", EdgesOfForecast::exceptionsOfMissed);
        Edge.of("(Beyond day 1000, too.)", EdgesOfForecast::beyondDay1000);
        Edge.of("WAIT for a kind: of the last 20 askings of it that were GOT (by the day, then by number) "
            + "the days from coming to GOT, by size:", EdgesOfForecast::lastTwenty);
        Edge.of("of n of them from that behind the least tenth (n by 10, rounded down, are left out) "
            + "to that ahead of the greatest tenth; none without any.", EdgesOfForecast::tenthsLeftOut);
        Edge.of("WAIT: the least (most false) or the greatest of the span; NONE. IllegalArgumentException: the kind is none.",
            EdgesOfForecast::exceptionsOfWaits);
        counts();
    }

    private static void counts() {
        Edge.of("0 TODAY, 1 PEOPLE, 2 LAWS, 3 askings,", EdgesOfForecast::countWhatCame);
        Edge.of("4 in STATE 0 to 5, 5 GOT, 6 HELD,", EdgesOfForecast::countStates);
        Edge.of("7 BOOKLETS, 8 BLANKS, 9 FEES taken, 10 given back,", EdgesOfForecast::countPrintedAndPaid);
        Edge.of("11 CALLS of the latest DAY, 12 CALLS of all DAYS,", EdgesOfForecast::countCalls);
        Edge.of("13 LENT, 14 UNITS that were left at all DESKS on the latest DAY,", EdgesOfForecast::countUnits);
        Edge.of("15 CLAUSES of the LAW of TODAY, 16 REFUSED, 17 LOST.", EdgesOfForecast::countClausesAndLast);
        Edge.of("NONE for another what.", EdgesOfForecast::countAnotherWhat);
    }

    private static void nMoreDays() {
        PassportOffice x = Scene.ready(1);
        x.ask(0, 0, 3, 0, false);
        Check.same("0 days: it is not yet day 3", 0, x.missed(0, 0));
        Check.same("3 days: got on day 3", 0, x.missed(0, 3));
        Check.same("60 days", 0, x.missed(0, 60));
        x.rules(20, 30, 10, 3, 9);
        Check.same("got on day 4: 2 days do not tell", 0, x.missed(0, 2));
        Check.same("got on day 4: 3 days do", 1, x.missed(0, 3));
        Check.same("got on day 4: 4 days do", 1, x.missed(0, 4));
        x.rules(20, 30, 10, 2, 9);
        x.broken(1, 1);
        Check.same("printers that are broken", 1, x.missed(0, 60));
        x.broken(2, 2);
        Check.same("printers that are broken later", 0, x.missed(0, 60));
        x.hands(1, 0);
        Check.same("no hands", 1, x.missed(0, 60));
        x.lend(1, 1, 1, 1, 0);
        Check.same("lent ones", 0, x.missed(0, 60));
        PassportOffice y = Scene.ready(5);
        for (int i = 0; i < 5; i++) y.ask(i, 0, i == 4 ? 3 : 50, i == 4 ? 64 : 0, false);
        Check.same("rule 0: it is read on day 2", 1, y.missed(0, 60));
        Check.same("rule 1: it is read on day 1", 0, y.missed(1, 60));
        Check.same("rule 2: it is read on day 1", 0, y.missed(2, 60));
        y.order(1);
        Check.same("that rule, not the one of now", 1, y.missed(0, 60));
        PassportOffice z = Scene.people(1);
        z.ask(0, 0, 3, 0, false);
        Check.same("no blank", 1, z.missed(0, 3));
        z.blanks(1);
        Check.same("one blank", 0, z.missed(0, 3));
        z.ask(0, 3, 3, 0, false);
        Check.same("one blank for two", 1, z.missed(0, 3));
        nMoreDaysFromNow();
    }

    /** What was given, read and printed until now counts for the days that would come. */
    private static void nMoreDaysFromNow() {
        PassportOffice x = Scene.ready(1);
        Check.law(x, 0, "need deed;need photo");
        x.ask(0, 3, 3, 3, false);
        Check.same("with all items", 0, x.missed(0, 9));
        x.ask(0, 3, 3, 1, false);
        Check.same("with one of two", 1, x.missed(0, 9));
        x.days(1);
        x.give(1, 2);
        Check.same("given too late: printed on day 2", 1, x.missed(0, 9));
        x.rules(20, 30, 10, 1, 9);
        Check.same("given in time: a day of post", 0, x.missed(0, 9));
        PassportOffice y = Scene.ready(1);
        y.hands(1, 9);
        for (int i = 0; i < 5; i++) y.ask(0, 3, i == 4 ? 4 : 3, i == 4 ? 64 : 0, false);
        Check.same("the ticket by wanted: read last, in time for day 4", 0, y.missed(1, 9));
        Check.same("the ticket first: another one is late for day 3", 1, y.missed(2, 9));
        PassportOffice z = Scene.ready(1);
        z.hands(1, 9);
        Check.law(z, 0, "need deed");
        for (int i = 0; i < 4; i++) z.ask(0, 3, 4, 0, false);
        z.days(1);
        for (int i = 0; i < 4; i++) z.give(i, 1);
        for (int i = 0; i < 2; i++) z.ask(0, 3, 4, 1, false);
        Check.same("four that were read before and two others take 8 units", 0, z.missed(0, 9));
        PassportOffice full = Full.booklets(149);
        full.rules(20, 30, 10, 0, 0);
        full.lose(0);
        full.lose(1);
        full.again(0);
        full.again(1);
        for (int i = 0; i < 3; i++) Check.same("a 150th booklet, no 151st", 1, full.missed(0, 60));
        full.days(60);
        Check.same("so it comes", 5, full.led(1, 0));
        Check.same("so it comes", 119, full.count(5));
    }

    private static void wantedUpToTodayAndN() {
        PassportOffice x = Scene.people(1);
        for (int day = 0; day < 6; day++) x.ask(0, 3, day, 0, false);
        for (int n = 0; n < 6; n++) Check.same("without blanks, " + n + " days", n + 1, x.missed(0, n));
        Check.same("and no more", 6, x.missed(0, 60));
        x.days(2);
        Check.same("those ahead of today too", 3, x.missed(0, 0));
        Check.same("up to tomorrow", 4, x.missed(0, 1));
        PassportOffice y = Scene.quick(1, "");
        for (int day = 2; day < 5; day++) y.ask(0, 3, day, 0, false);
        Check.same("got on day 3: by 2 not, by 3 and 4", 1, y.missed(0, 60));
        for (int state = 0; state < 10; state++) {
            PassportOffice busy = Busy.office();
            for (int i = 0; i < Busy.STATES.length(); i++) {
                if (Busy.STATES.charAt(i) - '0' != state && "012345".indexOf(Busy.STATES.charAt(i)) >= 0) busy.refuse(i);
            }
            for (int desk = 0; desk < 4; desk++) busy.hands(desk, 0);
            busy.rules(200, 30, 10, 60, 60);
            // the one in the post comes on day 5, ahead of day 8
            Check.same("state " + state, state <= 5 ? 1 : 0, busy.missed(0, 60));
        }
        PassportOffice late = Scene.quick(1, "");
        late.ask(0, 0, 2, 0, false);
        late.days(1);
        Scene.state("in the post", late, 0, 6);
        Check.same("state 6, got on day 3", 1, late.missed(0, 1));
        late.days(1);
        Check.same("state 6, wanted today", 1, late.missed(0, 0));
        late.days(1);
        Check.same("state 7, though late", 0, late.missed(0, 60));
        PassportOffice lost = Scene.quick(1, "");
        lost.ask(0, 0, 2, 0, false);
        lost.days(1);
        lost.lose(0);
        Check.same("state 8", 0, lost.missed(0, 60));
        lost.again(0);
        Check.same("state 5 again", 1, lost.missed(0, 60));
    }

    private static void nothingChanges() {
        for (int rule = 0; rule < 3; rule++) {
            for (int n : new int[] {0, 1, 60}) {
                PassportOffice x = Busy.office();
                PassportOffice twin = Busy.office();
                x.missed(rule, n);
                Check.same("rule " + rule + ", " + n + " days", Twins.all(twin), Twins.all(x));
                x.missed(2 - rule, n);
                x.days(3);
                twin.days(3);
                Check.same("later", Twins.all(twin), Twins.all(x));
            }
        }
        PassportOffice x = Busy.office();
        Check.same("the same again", x.missed(0, 60), x.missed(0, 60));
        Check.same("nor the tape", Busy.TAPE + 20, x.feed(0, 0, 0, 0, 0));
    }

    private static void exceptionsOfMissed() {
        PassportOffice x = Scene.people(1);
        for (int no : new int[] {-1, 3, LEAST, GREATEST}) {
            Check.argument("rule " + no, () -> x.missed(no, 0));
            Check.argument("rule " + no, () -> x.missed(no, 60));
        }
        for (int no : new int[] {-1, 61, LEAST, GREATEST}) {
            Check.argument("n " + no, () -> x.missed(0, no));
            Check.argument("n " + no, () -> x.missed(2, no));
        }
        x.ask(0, 0, 60, 0, false);
        for (int rule = 0; rule < 3; rule++) {
            Check.same("rule " + rule + ", 59 days", 0, x.missed(rule, 59));
            Check.same("rule " + rule + ", 60 days", 1, x.missed(rule, 60));
            Check.same("rule " + rule + ", no days", 0, x.missed(rule, 0));
        }
    }

    private static void beyondDay1000() {
        PassportOffice x = Scene.ready(2);
        Scene.goTo(x, 999);
        Scene.ask(x, 0, 0);
        Check.same("printed on day 1000, got on day 1002", 1, x.missed(0, 60));
        x.rules(20, 30, 10, 0, 9);
        Check.same("got on day 1000", 0, x.missed(0, 60));
        x.rules(20, 30, 10, 2, 9);
        x.days(1);
        Scene.ask(x, 1, 0);
        Check.same("both", 2, x.missed(0, 0));
        Check.same("both, beyond it", 2, x.missed(0, 60));
        Check.same("1000 still", 1000, x.count(0));
        Check.same("one in the post", "60", Scene.states(x));
        PassportOffice y = Scene.people(1);
        Scene.goTo(y, 941);
        Scene.ask(y, 0, 0);
        Check.same("up to day 1000: 59 days", 1, y.missed(0, 59));
        Check.same("up to day 1001: 60 days", 1, y.missed(0, 60));
        Check.same("up to day 999: 58 days", 0, y.missed(0, 58));
    }

    /** Asks for one of a kind for each person from a on and below b, and lets so many days go by until they are got. */
    private static void got(PassportOffice x, int kind, int a, int b, int days) {
        x.rules(200, 30, 10, days - 1, 9);
        for (int i = a; i < b; i++) Scene.ask(x, i, kind);
        x.days(Math.min(days, 60));
        Check.same("got", 7, x.led(x.count(3) - 1, 0));
    }

    private static void lastTwenty() {
        PassportOffice x = Scene.quick(60, "");
        for (int i = 0; i < 3; i++) got(x, 0, i, i + 1, 50);
        got(x, 0, 3, 20, 5);
        Check.same("3 of 50 days and 17 of 5 are twenty: two are left out", 50, x.waits(0, true));
        got(x, 0, 20, 21, 5);
        Check.same("the oldest one falls out: two of 50 are left out", 5, x.waits(0, true));
        // the three with the numbers 0 to 2 are got a day ahead of twenty others
        PassportOffice y = Scene.quick(60, "");
        y.rules(200, 30, 10, 30, 9);
        for (int i = 0; i < 3; i++) Scene.ask(y, i, 0);
        y.days(2);
        y.rules(200, 30, 10, 28, 9);
        for (int i = 3; i < 23; i++) Scene.ask(y, i, 0);
        y.days(28);
        Check.same("none is got", 0, y.count(5));
        y.days(1);
        Check.same("all on day 31", 23, y.count(5));
        Check.same("by number: the last twenty are those of 29 days", 29, y.waits(0, true));
        PassportOffice z = Scene.quick(60, "");
        z.rules(200, 30, 10, 30, 9);
        for (int i = 0; i < 3; i++) Scene.ask(z, i, 0);
        z.days(2);
        z.rules(200, 30, 10, 27, 9);
        for (int i = 3; i < 23; i++) Scene.ask(z, i, 0);
        z.days(29);
        Check.same("all are got", 23, z.count(5));
        Check.same("by the day: the first three are the latest", 31, z.waits(0, true));
        Check.same("and three of the twenty fall out", 28, z.waits(0, false));
        PassportOffice v = Scene.quick(60, "");
        v.rules(200, 30, 10, 40, 9);
        Scene.ask(v, 0, 0);
        v.days(1);
        v.rules(200, 30, 10, 0, 9);
        for (int i = 1; i < 3; i++) Scene.ask(v, i, 0);
        v.days(1);
        v.rules(200, 30, 10, 5, 9);
        for (int i = 3; i < 22; i++) Scene.ask(v, i, 0);
        v.days(38);
        Check.same("number 0 is on its way: 21 are got", 21, v.count(5));
        Check.same("one of 1 day and 19 of 6", 6, v.waits(0, true));
        v.days(1);
        Check.same("number 0 is the latest: 19 of 6 days and it", 6, v.waits(0, false));
        Check.same("two of the greatest fall out", 6, v.waits(0, true));
        z.ask(40, 1, 1000, 0, false);
        z.days(60);
        Check.same("each kind by itself", 28, z.waits(1, true));
        Check.same("each kind by itself", 31, z.waits(0, true));
    }

    private static void tenthsLeftOut() {
        PassportOffice x = Scene.quick(60, "");
        Check.same("none without any", -1, x.waits(3, true));
        Check.same("none without any", -1, x.waits(3, false));
        // of 1, 2, 3, .. days, one by one
        int[] least = {1, 1, 1, 1, 1, 1, 1, 1, 1, 2, 2, 2, 2, 2, 2, 2, 2, 2, 2, 3, 4, 5};
        int[] most = {1, 2, 3, 4, 5, 6, 7, 8, 9, 9, 10, 11, 12, 13, 14, 15, 16, 17, 18, 18, 19, 20};
        for (int i = 0; i < least.length; i++) {
            got(x, 3, i, i + 1, i + 1);
            Check.same("the least of " + (i + 1), least[i], x.waits(3, false));
            Check.same("the greatest of " + (i + 1), most[i], x.waits(3, true));
        }
        PassportOffice y = Scene.quick(3, "");
        int[] way = {9, 0, 4};
        for (int i = 0; i < 3; i++) {
            y.rules(20, 30, 10, way[i], 9);
            Scene.ask(y, i, 0);
            y.days(1);
        }
        y.days(9);
        Check.same("by size, not by number: the least", 1, y.waits(0, false));
        Check.same("by size, not by number: the greatest", 10, y.waits(0, true));
    }

    private static void exceptionsOfWaits() {
        PassportOffice x = Scene.quick(9, "");
        for (int no : new int[] {-1, 4, LEAST, GREATEST}) {
            Check.argument("kind " + no, () -> x.waits(no, true));
            Check.argument("kind " + no, () -> x.waits(no, false));
        }
        for (int kind = 0; kind < 4; kind++) {
            Check.same("none yet", -1, x.waits(kind, true));
            Check.same("none yet", -1, x.waits(kind, false));
            got(x, kind, kind, kind + 1, kind + 2);
            Check.same("one alone is the least", kind + 2, x.waits(kind, false));
            Check.same("and the greatest", kind + 2, x.waits(kind, true));
        }
        PassportOffice y = Scene.quick(2, "");
        y.rules(20, 30, 10, 0, 0);
        Scene.ask(y, 0, 0);
        y.days(1);
        Check.same("one day at least", 1, y.waits(0, false));
        y.rules(20, 30, 10, 9, 9);
        Scene.ask(y, 1, 0);
        y.days(1);
        Check.same("in the post is not got", 1, y.waits(0, true));
        y.lose(1);
        Check.same("nor lost", 1, y.waits(0, true));
    }

    private static void countWhatCame() {
        PassportOffice x = Scene.people(0);
        int[] none = {0, 0, 0, 0};
        for (int i = 0; i < 4; i++) Check.same("count " + i, none[i], x.count(i));
        x.days(3);
        for (int i = 0; i < 80; i++) Check.apart(x, i);
        for (int i = 0; i < 12; i++) x.law(3);
        for (int i = 0; i < 120; i++) Scene.ask(x, 0, 3);
        Check.full("no more people", () -> Check.apart(x, 80));
        Check.full("no more laws", () -> x.law(3));
        Check.full("no more askings", () -> Scene.ask(x, 0, 3));
        int[] most = {3, 80, 12, 120};
        for (int i = 0; i < 4; i++) Check.same("count " + i, most[i], x.count(i));
    }

    private static void countStates() {
        PassportOffice none = Scene.people(1);
        for (int what = 4; what < 7; what++) Check.same("none", 0, none.count(what));
        PassportOffice x = Busy.office();
        Check.same("one each in state 0 to 5", 6, x.count(4));
        Check.same("one is got", 1, x.count(5));
        Check.same("one is held", 1, x.count(6));
        for (int i = 0; i < Busy.STATES.length(); i++) {
            int open = x.count(4);
            boolean may = Busy.STATES.charAt(i) <= '5';
            if (may) x.refuse(i);
            Check.same("one fewer in state 0 to 5, or not", may ? open - 1 : open, x.count(4));
        }
        Check.same("none in state 0 to 5", 0, x.count(4));
        Check.same("none is held", 0, x.count(6));
        Check.same("one is got still", 1, x.count(5));
        PassportOffice all = Scene.people(1);
        for (int i = 0; i < 120; i++) Scene.ask(all, 0, 3);
        Check.same("all", 120, all.count(4));
    }

    private static void countPrintedAndPaid() {
        PassportOffice x = Scene.people(2);
        for (int what = 7; what < 11; what++) Check.same("none", 0, x.count(what));
        Check.law(x, 0, "fee 7;back 0");
        x.blanks(2);
        x.ask(0, 0, 2, 0, false);
        x.ask(1, 0, 3, 0, false);
        Check.same("taken at once", 14, x.count(9));
        x.days(1);
        Check.same("booklets", 2, x.count(7));
        Check.same("blanks", 0, x.count(8));
        x.days(1);
        Check.same("none given back", 0, x.count(10));
        x.days(1);
        Check.same("given back for one", 7, x.count(10));
        Check.same("taken still", 14, x.count(9));
        PassportOffice full = Full.booklets(150);
        Check.same("150", 150, full.count(7));
        Check.same("blanks", 850, full.count(8));
    }

    private static void countCalls() {
        PassportOffice x = Scene.people(1);
        Check.same("ahead of any day", 0, x.count(11));
        x.rules(1, 30, 10, 2, 9);
        for (int i = 0; i < 6; i++) Scene.ask(x, 0, 3);
        x.days(1);
        Check.same("none", 0, x.count(11));
        x.days(1);
        Check.same("of the latest day", 2, x.count(11));
        Check.same("of all days", 2, x.count(12));
        x.days(0);
        Check.same("no day goes by", 2, x.count(11));
        x.days(3);
        Check.same("of the latest day", 2, x.count(11));
        Check.same("of all days", 8, x.count(12));
        for (int i = 0; i < 4; i++) x.refuse(i);
        Check.same("of the latest day, as it was", 2, x.count(11));
        x.days(1);
        Check.same("two are too few", 0, x.count(11));
        Check.same("of all days", 8, x.count(12));
        x.missed(0, 60);
        Check.same("not of days that would be", 8, x.count(12));
    }

    private static void countUnits() {
        PassportOffice x = Scene.people(1);
        Check.same("none is lent", 0, x.count(13));
        Check.same("ahead of any day", 0, x.count(14));
        x.days(1);
        Check.same("all of them", 32, x.count(14));
        x.hands(2, 30);
        Check.same("as it was on the latest day", 32, x.count(14));
        x.days(0);
        Check.same("no day goes by", 32, x.count(14));
        x.days(1);
        Check.same("of the latest day", 24 + 240, x.count(14));
        x.lend(3, 1, 3, 3, 0);
        x.lend(0, 30, 3, 3, 30);
        Check.same("two", 2, x.count(13));
        x.days(1);
        Check.same("lent ones too; none of one desk", 0 + 8 + 240 + 16, x.count(14));
        x.days(1);
        Check.same("those that are over are told still", 2, x.count(13));
        for (int i = 3; i <= 20; i++) x.lend(0, 1, 9, 9, 0);
        Check.same("a 21st", -1, x.lend(0, 1, 9, 9, 0));
        Check.same("20 at most", 20, x.count(13));
        for (int desk = 0; desk < 4; desk++) x.hands(desk, 0);
        x.days(1);
        Check.same("no hands", 0, x.count(14));
    }

    private static void countClausesAndLast() {
        PassportOffice x = Scene.ready(2);
        Check.same("ahead of any law", 0, x.count(15));
        Check.law(x, 2, "see;".repeat(15) + "see");
        Check.same("not yet", 0, x.count(15));
        x.days(2);
        Check.same("sixteen", 16, x.count(15));
        Check.law(x, 2, "");
        Check.same("none", 0, x.count(15));
        Check.same("refused", 0, x.count(16));
        Check.same("lost", 0, x.count(17));
        Scene.ask(x, 0, 0);
        Scene.ask(x, 1, 0);
        x.refuse(1);
        Check.same("refused", 1, x.count(16));
        x.days(1);
        x.lose(0);
        Check.same("lost", 1, x.count(17));
        x.again(0);
        Check.same("lost no more", 0, x.count(17));
        x.refuse(0);
        Check.same("refused", 2, x.count(16));
    }

    private static void countAnotherWhat() {
        PassportOffice x = Busy.office();
        for (int no : new int[] {-1, 18, LEAST, GREATEST}) Check.same("count " + no, -1, x.count(no));
        Check.same("17 is one", 1, x.count(17));
        Check.same("0 is one", 3, x.count(0));
    }
}
