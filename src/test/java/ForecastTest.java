/** Promises 31, 32 and 34: what would be missed, waits, counts. */
final class ForecastTest {
    public static void main(String[] args) {
        promise31Missed();
        promise31Rules();
        promise31ChangesNothing();
        promise31BeyondTheLastDay();
        promise31Booklets();
        promise32Waits();
        promise32LastTwenty();
        promise32LongWaits();
        promise34Count();
        Check.close();
    }

    private static PassportOffice start(int people) {
        PassportOffice x = new PassportOffice();
        for (int i = 0; i < people; i++) Check.apart(x, i);
        x.blanks(500);
        return x;
    }

    private static void promise31Missed() {
        PassportOffice x = start(5);
        Check.same("none", 0, x.missed(0, 60));
        Check.argument("rule 3", () -> x.missed(3, 0));
        Check.argument("rule -1", () -> x.missed(-1, 0));
        Check.argument("n 61", () -> x.missed(0, 61));
        Check.argument("n -1", () -> x.missed(0, -1));
        for (int i = 0; i < 5; i++) x.ask(i, 0, i, 0, false);
        Check.same("wanted today", 1, x.missed(0, 0));
        Check.same("wanted up to tomorrow", 2, x.missed(0, 1));
        Check.same("two in the post, in time for 3", 3, x.missed(0, 2));
        Check.same("but 3 and 4 are behind at check", 4, x.missed(0, 3));
        Check.same("all: 0 and 1 got on day 3, 2 and 3 on day 4, 4 on day 5", 5, x.missed(0, 4));
        x.refuse(0);
        Check.same("a refused one is none of them, and 4 is got on its day", 3, x.missed(0, 4));
        x.days(1);
        x.lose(1);
        Check.same("nor a lost one", 2, x.missed(0, 3));
        x.days(2);
        Check.same("nor one that is got, late", 1, x.count(5));
        Check.same("wanted up to now", 1, x.missed(0, 0));
    }

    private static void promise31Rules() {
        PassportOffice x = start(7);
        for (int i = 0; i < 7; i++) x.ask(i, 0, 10 - i, i == 0 ? 64 : 0, i == 3);
        x.hands(0, 0);
        x.lend(0, 1, 1, 1, 0);
        x.lend(0, 1, 5, 5, 0);
        x.hands(1, 9);
        // read on day 1: 3 0 1 2, or 3 6 5 4, or 3 0 6 5; the others on day 5, got on day 7
        Check.same("by coming: 4 to 6", 3, x.missed(0, 60));
        Check.same("by wanted: none", 0, x.missed(1, 60));
        Check.same("by ticket: 4", 1, x.missed(2, 60));
        Check.same("of rule 0, up to day 4", 1, x.missed(0, 4));
        x.order(1);
        Check.same("the rule that is told counts, not that of now", 3, x.missed(0, 60));
        x.order(0);
        x.days(7);
        int missed = 0;
        for (int i = 0; i < 7; i++) missed += x.led(i, 13) > x.led(i, 4) ? 1 : 0;
        Check.same("so it comes", 3, missed);
    }

    private static String all(PassportOffice x) {
        StringBuilder text = new StringBuilder();
        for (int i = 0; i < 18; i++) text.append(x.count(i)).append(' ');
        for (int a = 0; a < x.count(3); a++) {
            for (int i = 5; i < 16; i++) text.append(x.led(a, i)).append(' ');
            text.append(x.led(a, 0)).append(' ');
        }
        for (int b = 0; b < x.count(7); b++) {
            for (int i = 0; i < 4; i++) text.append(x.booklet(b, i)).append(' ');
        }
        for (int a = 0; a < x.count(3); a++) text.append(x.ahead(a)).append(' ');
        return text.append(x.fault()).toString();
    }

    private static void promise31ChangesNothing() {
        for (int day = 0; day < 9; day++) {
            PassportOffice x = start(9);
            Check.law(x, 0, "need deed if lost;fee 5;back 1;see if renew;risk 3 if second");
            x.rules(2, 30, 10, 1, 9);
            x.feed(1, 2, 3, 4, 5);
            for (int i = 0; i < 9; i++) x.ask(i, i % 4, 3 + i % 5, i % 2 * 64, i % 3 == 0);
            x.days(day);
            String before = all(x);
            for (int rule = 0; rule < 3; rule++) x.missed(rule, 60 - day);
            Check.same("on day " + day, before, all(x));
            Check.same("nor the tape", 40, x.feed(0, 0, 0, 0, 0));
        }
    }

    private static void promise31BeyondTheLastDay() {
        PassportOffice x = start(5);
        for (int i = 0; i < 16; i++) x.days(60);
        x.days(39);
        x.hands(1, 0);
        x.ask(0, 0, 1000, 0, false);
        Check.same("at 1000 the day is not over", 999, x.count(0));
        Check.same("one is missed", 1, x.missed(0, 60));
        x.hands(1, 1);
        x.rules(20, 30, 10, 0, 9);
        Check.same("got on day 1000", 0, x.missed(0, 1));
        x.days(1);
        x.ask(1, 0, 1000, 0, false);
        Check.same("on the last day", 1, x.missed(0, 0));
        Check.same("beyond it", 1, x.missed(0, 60));
        Check.same("the last day", 1000, x.count(0));
    }

    /** 150 booklets are the most for those that are tried out, too, each time anew. */
    private static void promise31Booklets() {
        PassportOffice x = start(9);
        for (int desk = 0; desk < 4; desk++) x.hands(desk, 30);
        x.lend(1, 30, 0, 1000, 0);
        x.rules(20, 30, 10, 1, 9);
        for (int i = 0; i < 100; i++) x.ask(i % 9, 3, 50, 0, false);
        x.days(1);
        for (int i = 0; i < 40; i++) {
            x.lose(i);
            x.again(i);
        }
        for (int k = 0; k < 20; k++) Check.same("40 more are printed", 0, x.missed(0, 60));
        x.days(1);
        for (int i = 40; i < 50; i++) x.lose(i - 40);
        for (int i = 0; i < 10; i++) x.again(i);
        for (int i = 0; i < 3; i++) x.ask(i, 3, 50, 0, true);
        Check.same("140", 140, x.count(7));
        Check.same("ten of 13 are printed, the urgent ones first", 3, x.missed(0, 60));
        Check.same("the same again", 3, x.missed(0, 60));
        x.days(3);
        Check.same("so it comes", 3, x.queue(3));
        Check.same("150", 150, x.count(7));
    }

    private static void promise32Waits() {
        PassportOffice x = start(40);
        for (int desk = 0; desk < 4; desk++) x.hands(desk, 30);
        Check.argument("kind 4", () -> x.waits(4, true));
        Check.argument("kind -1", () -> x.waits(-1, true));
        Check.same("none without any", -1, x.waits(0, false));
        Check.same("none without any", -1, x.waits(0, true));
        for (int i = 0; i < 9; i++) got(x, i, 0, 3 + i);
        Check.same("nine: none is left out", 4, x.waits(0, false));
        Check.same("nine: none is left out", 12, x.waits(0, true));
        got(x, 9, 0, 1);
        Check.same("ten: the least is left out", 4, x.waits(0, false));
        Check.same("ten: the greatest is left out", 11, x.waits(0, true));
        Check.same("of another kind none", -1, x.waits(1, true));
        got(x, 10, 1, 7);
        Check.same("of one alone", 8, x.waits(1, true));
        Check.same("of one alone", 8, x.waits(1, false));
        x.ask(11, 2, 1000, 0, false);
        x.days(1);
        x.lose(11);
        Check.same("one that is lost is not got", -1, x.waits(2, true));
    }

    /** Asks and lets the days go by until it is got, one more than those of the post later. */
    private static void got(PassportOffice x, int person, int kind, int post) {
        x.rules(200, 30, 10, post, 9);
        int asking = x.ask(person, kind, 1000, 0, false);
        x.days(1 + post);
        Check.same("got", 7, x.led(asking, 0));
    }

    private static void promise32LastTwenty() {
        PassportOffice x = start(40);
        for (int desk = 0; desk < 4; desk++) x.hands(desk, 30);
        for (int i = 0; i < 2; i++) got(x, i, 0, 40);
        for (int i = 2; i < 20; i++) got(x, i, 0, i % 5);
        // 2 of 41, 3 of 1, 3 of 2 (of 2, 3, .. 19 by 5), 4 of 3, 4 of 4, 4 of 5
        Check.same("two of twenty are left out", 1, x.waits(0, false));
        Check.same("two of twenty are left out", 5, x.waits(0, true));
        x.rules(200, 30, 10, 30, 9);
        x.ask(20, 0, 1000, 0, false);
        x.ask(21, 0, 1000, 0, false);
        x.days(1);
        x.rules(200, 30, 10, 29, 9);
        x.days(30);
        Check.same("the first two are not of the last twenty", 5, x.waits(0, true));
        got(x, 22, 0, 50);
        Check.same("three great ones", 31, x.waits(0, true));
        // got on one day: by number; the twenty-first from behind falls out
        PassportOffice y = start(40);
        for (int desk = 0; desk < 4; desk++) y.hands(desk, 30);
        y.rules(200, 30, 10, 10, 9);
        for (int i = 0; i < 3; i++) y.ask(i, 0, 1000, 0, false);
        y.days(1);
        y.rules(200, 30, 10, 9, 9);
        for (int i = 3; i < 22; i++) y.ask(i, 0, 1000, 0, false);
        y.days(10);
        Check.same("22 on one day", 22, y.count(5));
        Check.same("of 0 to 2 just the last is among the twenty", 10, y.waits(0, true));
        PassportOffice z = start(40);
        for (int desk = 0; desk < 4; desk++) z.hands(desk, 30);
        z.rules(200, 30, 10, 20, 9);
        for (int i = 0; i < 4; i++) z.ask(i, 0, 1000, 0, false);
        z.days(1);
        z.rules(200, 30, 10, 3, 9);
        for (int i = 4; i < 24; i++) z.ask(i, 0, 1000, 0, false);
        z.days(20);
        Check.same("by the day ahead of the number", 21, z.waits(0, true));
    }

    private static void promise32LongWaits() {
        PassportOffice x = start(24);
        for (int desk : new int[] {0, 1, 3}) x.hands(desk, 30);
        x.hands(2, 0);
        Check.law(x, 0, "see if renew");
        x.rules(200, 30, 10, 6, 6);
        for (int i = 0; i < 3; i++) x.ask(i, 0, 1000, 0, false);
        x.ask(3, 1, 1000, 0, false);
        Scene.goTo(x, 999);
        Check.same("three, of 7 days each", 7, x.waits(0, true));
        x.rules(200, 30, 10, 0, 0);
        x.hands(2, 1);
        for (int i = 4; i < 24; i++) x.ask(i, 0, 1000, 0, false);
        x.days(1);
        Check.same("those of the last day are the latest: the least", 1, x.waits(0, false));
        Check.same("those of the last day are the latest: the greatest", 1, x.waits(0, true));
        Check.same("from the first day to the last one", 1000, x.waits(1, true));
        Check.same("from the first day to the last one", 1000, x.waits(1, false));
    }

    private static void promise34Count() {
        PassportOffice x = start(6);
        Check.law(x, 0, "fee 10;need deed if lost;back 0");
        x.person(-9000, false, 0, 1, 0, 0, 0);
        x.ask(0, 0, 90, 0, false);
        x.ask(1, 0, 90, 0, false);
        x.ask(2, 2, 90, 0, false);
        x.ask(3, 0, 0, 0, false);
        x.ask(4, 0, 90, 0, false);
        x.lend(0, 1, 9, 9, 0);
        x.hands(1, 9);
        x.days(1);
        x.lose(1);
        x.refuse(4);
        counts("day 1", x, 1, 7, 1, 5, 2, 0, 1, 2, 498, 50, 0, 0, 0, 1, 0 + 63 + 8 + 6, 3, 1, 1);
        x.rules(1, 30, 10, 2, 9);
        x.hands(0, 0);
        x.ask(4, 0, 90, 0, false);
        x.ask(5, 0, 90, 0, false);
        x.days(2);
        counts("day 3", x, 3, 7, 1, 7, 4, 1, 1, 2, 498, 70, 10, 1, 1, 1, 0 + 72 + 8 + 8, 3, 1, 1);
        x.again(1);
        x.tell(0, 6, true);
        x.days(1);
        counts("day 4", x, 4, 7, 1, 7, 3, 1, 0, 3, 497, 70, 10, 1, 2, 1, 0 + 72 + 8 + 7, 3, 2, 0);
    }

    private static void counts(String what, PassportOffice x, int... due) {
        for (int i = 0; i < due.length; i++) Check.same(what + ": count " + i, due[i], x.count(i));
        Check.same("count 18", -1, x.count(18));
        Check.same("count -1", -1, x.count(-1));
        Check.same("the greatest", -1, x.count(Integer.MAX_VALUE));
    }
}
