/** Promises 15 to 22, 27 and 28: hands, units, rules, orders, blanks, days, queues. */
final class DesksTest {
    public static void main(String[] args) {
        promise15Hands();
        promise16Lend();
        promise17Units();
        promise18Rules();
        promise18RulesWrong();
        promise19Order();
        promise20Blanks();
        promise21Broken();
        promise22Days();
        promise22Read();
        promise22Check();
        promise22See();
        promise22Print();
        promise22Calls();
        promise22Near();
        promise27Queue();
        promise28Ahead();
        Check.close();
    }

    private static PassportOffice start(int people) {
        PassportOffice x = new PassportOffice();
        for (int i = 0; i < people; i++) Check.apart(x, i);
        return x;
    }

    private static String states(PassportOffice x) {
        StringBuilder text = new StringBuilder();
        for (int i = 0; i < x.count(3); i++) text.append(x.led(i, 0));
        return text.toString();
    }

    private static void promise15Hands() {
        PassportOffice x = new PassportOffice();
        for (int desk = 0; desk < 4; desk++) {
            x.hands(desk, 30 - desk);
            Check.same("units", 8 * (30 - desk), x.units(desk, 0));
        }
        x.hands(0, 0);
        Check.same("none", 0, x.units(0, 0));
        Check.same("of that desk alone", 232, x.units(1, 0));
        Check.index("desk 4", () -> x.hands(4, 1));
        Check.index("desk -1", () -> x.hands(-1, 1));
        Check.index("desk goes ahead", () -> x.hands(4, 31));
        Check.argument("31", () -> x.hands(0, 31));
        Check.argument("-1", () -> x.hands(0, -1));
        Check.same("as it was", 0, x.units(0, 0));
    }

    private static void promise16Lend() {
        PassportOffice x = new PassportOffice();
        x.days(5);
        Check.index("desk 4", () -> x.lend(4, 1, 5, 5, 0));
        Check.index("desk -1", () -> x.lend(-1, 0, 5, 5, 0));
        Check.argument("n 0", () -> x.lend(0, 0, 5, 5, 0));
        Check.argument("n 31", () -> x.lend(0, 31, 5, 5, 0));
        Check.argument("from yesterday", () -> x.lend(0, 1, 4, 5, 0));
        Check.argument("to ahead of from", () -> x.lend(0, 1, 7, 6, 0));
        Check.argument("to behind the last day", () -> x.lend(0, 1, 7, 1001, 0));
        Check.argument("from behind the last day", () -> x.lend(0, 1, 1001, 1001, 0));
        Check.argument("training 31", () -> x.lend(0, 1, 7, 9, 31));
        Check.argument("training -1", () -> x.lend(0, 1, 7, 9, -1));
        Check.same("none", 0, x.count(13));
        Check.same("the widest", 1, x.lend(0, 30, 5, 1000, 30));
        Check.same("one day", 2, x.lend(3, 1, 1000, 1000, 0));
        for (int i = 3; i <= 20; i++) Check.same("lent", i, x.lend(1, 1, 6, 6, 0));
        Check.same("a 21st", -1, x.lend(1, 1, 6, 6, 0));
        Check.argument("a wrong 21st", () -> x.lend(1, 0, 6, 6, 0));
        Check.same("20", 20, x.count(13));
        Check.same("18 hands and one", 19 * 8, x.units(1, 6));
    }

    private static void promise17Units() {
        PassportOffice x = new PassportOffice();
        x.hands(2, 5);
        x.lend(2, 3, 10, 15, 2);
        int[] due = {40, 34, 34, 64, 64, 64, 64, 40};
        for (int i = 0; i < due.length; i++) Check.same("day " + (9 + i), due[i], x.units(2, 9 + i));
        x.lend(2, 30, 11, 13, 1);
        Check.same("never fewer than 0", 0, x.units(2, 11));
        Check.same("both", 64 + 240, x.units(2, 12));
        x.lend(2, 2, 11, 11, 0);
        Check.same("all together never fewer than 0", 0, x.units(2, 11));
        x.lend(2, 30, 11, 11, 0);
        Check.same("taken off all", 34 - 60 + 16 + 240, x.units(2, 11));
        x.lend(1, 1, 0, 3, 30);
        Check.same("in training all the time", 6, x.units(1, 3));
        Check.same("ahead of all days", 40, x.units(2, Integer.MIN_VALUE));
        Check.same("behind all days", 40, x.units(2, Integer.MAX_VALUE));
        Check.index("desk 4", () -> x.units(4, 0));
        Check.index("desk -1", () -> x.units(-1, 0));
        x.hands(1, 0);
        Check.same("of no hands", 0, x.units(1, 0));
        PassportOffice y = start(3);
        y.rules(1, 30, 10, 2, 9);
        y.hands(3, 0);
        for (int i = 0; i < 3; i++) y.ask(i, 0, 9, 0, false);
        y.days(3);
        Check.same("there was a call", 1, y.count(11));
        Check.same("it is not taken off", 8, y.units(0, 3));
    }

    private static void promise18Rules() {
        PassportOffice x = start(2);
        x.person(-9000, true, 0, 0, 90, 0, 0);
        x.blanks(50);
        x.ask(0, 0, 9, 0, false);
        x.ask(2, 0, 9, 0, false);
        x.days(1);
        Check.same("home at first", 3, x.led(0, 14));
        Check.same("abroad at first", 10, x.led(1, 14));
        x.rules(1, 0, 0, 60, 60);
        Check.same("on its way as it was", 3, x.led(0, 14));
        x.ask(0, 0, 9, 0, false);
        x.ask(2, 0, 9, 0, false);
        x.days(1);
        Check.same("home", 62, x.led(2, 14));
        Check.same("abroad", 62, x.led(3, 14));
        x.rules(200, 10000, 1000, 5, 7);
        x.ask(1, 0, 9, 0, false);
        x.days(1);
        Check.same("near now", 3, x.led(4, 0));
        x.rules(200, 0, 1000, 5, 7);
        x.ask(0, 0, 9, 0, false);
        x.ask(2, 0, 9, 0, false);
        x.days(1);
        Check.same("home 5", 9, x.led(5, 14));
        Check.same("abroad 7", 11, x.led(6, 14));
    }

    private static void promise18RulesWrong() {
        PassportOffice x = start(2);
        x.blanks(9);
        Check.argument("patience 0", () -> x.rules(0, 0, 0, 0, 0));
        Check.argument("patience 201", () -> x.rules(201, 0, 0, 0, 0));
        Check.argument("limit -1", () -> x.rules(1, -1, 0, 0, 0));
        Check.argument("limit 10001", () -> x.rules(1, 10001, 0, 0, 0));
        Check.argument("doubt -1", () -> x.rules(1, 0, -1, 0, 0));
        Check.argument("doubt 1001", () -> x.rules(1, 0, 1001, 0, 0));
        Check.argument("home -1", () -> x.rules(1, 0, 0, -1, 0));
        Check.argument("home 61", () -> x.rules(1, 0, 0, 61, 0));
        Check.argument("abroad -1", () -> x.rules(1, 0, 0, 0, -1));
        Check.argument("abroad 61", () -> x.rules(1, 0, 0, 0, 61));
        x.ask(0, 0, 9, 0, false);
        x.days(1);
        Check.same("home as it was", 3, x.led(0, 14));
    }

    private static void promise19Order() {
        PassportOffice x = start(1);
        int[] wanted = {50, 20, 30, 20, 60, 10};
        int[] items = {0, 64, 0, 0, 255, 191};
        for (int i = 0; i < 6; i++) x.ask(0, 0, wanted[i], items[i], i == 2 || i == 4);
        aheads("by coming", x, 2, 3, 0, 4, 1, 5);
        x.order(1);
        aheads("by wanted", x, 5, 3, 0, 4, 1, 2);
        x.order(2);
        aheads("by ticket", x, 5, 2, 1, 4, 0, 3);
        Check.argument("rule 3", () -> x.order(3));
        Check.argument("rule -1", () -> x.order(-1));
        aheads("as it was", x, 5, 2, 1, 4, 0, 3);
        x.order(0);
        aheads("by coming again", x, 2, 3, 0, 4, 1, 5);
        int[][] readers = {{2, 4, 0, 1}, {2, 4, 5, 1}, {4, 2, 1, 5}};
        for (int rule = 0; rule < 3; rule++) {
            PassportOffice y = start(1);
            for (int i = 0; i < 6; i++) y.ask(0, 0, wanted[i], items[i], i == 2 || i == 4);
            y.order(rule);
            y.days(1);
            for (int i : readers[rule]) Check.same("rule " + rule + ": read " + i, 1, y.led(i, 12));
            Check.same("four were read", 2, y.queue(0));
        }
    }

    private static void aheads(String what, PassportOffice x, int... due) {
        for (int i = 0; i < due.length; i++) Check.same(what + ": ahead of " + i, due[i], x.ahead(i));
    }

    private static void promise20Blanks() {
        PassportOffice x = start(1);
        Check.same("none come", 0, x.blanks(0));
        Check.argument("-1", () -> x.blanks(-1));
        Check.argument("1001", () -> x.blanks(1001));
        for (int i = 1; i < 10; i++) Check.same("thousands", 1000 * i, x.blanks(1000));
        Check.same("one fewer", 9999, x.blanks(999));
        Check.argument("beyond 10000", () -> x.blanks(2));
        Check.same("10000", 10000, x.blanks(1));
        Check.argument("beyond 10000", () -> x.blanks(1));
        Check.same("none more", 10000, x.blanks(0));
        x.ask(0, 0, 9, 0, false);
        x.days(1);
        Check.same("one is used", 9999, x.count(8));
    }

    private static void promise21Broken() {
        PassportOffice x = start(1);
        x.blanks(100);
        Check.argument("above", () -> x.broken(3, 2));
        x.broken(2, 3);
        int[] due = {1, 0, 0, 3};
        for (int i = 0; i < 4; i++) {
            int had = x.count(7);
            x.ask(0, 0, 90, 0, false);
            x.days(1);
            Check.same("printed on day " + (i + 1), due[i], x.count(7) - had);
        }
        x.broken(5, 5);
        x.broken(6, 1000);
        x.ask(0, 0, 90, 0, false);
        x.days(1);
        Check.same("told anew in place of what was", 5, x.count(7));
        x.ask(0, 0, 90, 0, false);
        x.days(1);
        Check.same("broken", 5, x.count(7));
        Check.argument("a wrong one changes nothing", () -> x.broken(Integer.MAX_VALUE, Integer.MIN_VALUE));
        x.days(1);
        Check.same("broken still", 5, x.count(7));
        x.broken(Integer.MIN_VALUE, 7);
        x.days(1);
        Check.same("day 8", 6, x.count(7));
    }

    private static void promise22Days() {
        PassportOffice x = start(1);
        Check.argument("-1", () -> x.days(-1));
        Check.argument("61", () -> x.days(61));
        Check.same("none", 0, x.days(0));
        for (int i = 1; i <= 16; i++) Check.same("sixty", 60 * i, x.days(60));
        x.rules(39, 30, 10, 2, 9);
        for (int i = 0; i < 3; i++) x.ask(0, 0, 1000, 0, false);
        Check.same("as far as it goes", 1000, x.days(60));
        Check.same("one day of calls", 1, x.count(12));
        Check.same("no farther", 1000, x.days(60));
        Check.same("no day went by", 1, x.count(12));
        Check.argument("still", () -> x.days(61));
    }

    private static void promise22Read() {
        PassportOffice x = start(7);
        Check.law(x, 0, "need deed");
        x.hands(1, 0);
        for (int i = 0; i < 7; i++) x.ask(i, 0, 90, i % 2, false);
        x.days(1);
        Check.same("four of 2 units", "1212000", states(x));
        Check.same("none is left at read", 8 + 8, x.count(14));
        x.give(0, 1);
        x.give(2, 1);
        x.days(1);
        Check.same("two of 1 unit, three of 2", "2222121", states(x));
        x.ask(0, 0, 90, 1, false);
        x.give(4, 1);
        x.give(6, 1);
        x.hands(0, 0);
        x.lend(0, 1, 3, 3, 0);
        x.days(1);
        Check.same("all", "22222222", states(x));
        Check.same("8 less 2 less 2", 4 + 8 + 8, x.count(14));
        PassportOffice y = start(3);
        Check.law(y, 0, "need deed if urgent");
        y.hands(0, 0);
        y.ask(0, 0, 90, 0, true);
        y.lend(0, 1, 1, 2, 1);
        y.days(1);
        Check.same("no units at all", "0", states(y));
        y.days(1);
        y.give(0, 1);
        y.hands(0, 1);
        y.ask(1, 0, 90, 0, true);
        y.ask(2, 0, 90, 0, false);
        y.lend(0, 3, 3, 9, 9);
        y.days(1);
        Check.same("2 units: the one that was read, then one that would take 2 ends it", "500", states(y));
    }

    private static void promise22Check() {
        PassportOffice x = start(5);
        Check.law(x, 0, "risk 3 if renew;risk 5 if second;risk 1 if second;see if lost;risk 10 if lost");
        x.hands(0, 9);
        x.hands(3, 0);
        x.ask(0, 1, 90, 0, false);
        x.ask(1, 0, 90, 0, false);
        x.ask(2, 0, 90, 0, false);
        x.days(1);
        Check.same("6 units, then 2 are left of 3 that are due", "522", states(x));
        Check.same("2 are left at check", 72 - 6 + 2 + 8 + 0, x.count(14));
        x.ask(3, 3, 90, 0, true);
        x.days(1);
        Check.same("the first one ends it, though others would do", "5222", states(x));
        x.hands(1, 2);
        x.days(1);
        Check.same("9 of 16, then two of 3", "5555", states(x));
        x.ask(4, 2, 90, 0, false);
        x.hands(2, 0);
        x.days(1);
        Check.same("13 of 16", "55554", states(x));
        PassportOffice y = start(3);
        Check.law(y, 0, "risk 10 if first;risk 11 if renew");
        y.hands(1, 9);
        y.hands(2, 0);
        y.ask(0, 0, 90, 0, false);
        y.ask(1, 1, 90, 0, false);
        y.days(1);
        Check.same("risk above 10 alone is seen", "54", states(y));
        y.rules(20, 30, 9, 2, 9);
        y.ask(2, 0, 90, 0, false);
        y.days(1);
        Check.same("doubt 9", "544", states(y));
    }

    private static void promise22See() {
        PassportOffice x = start(3);
        Check.law(x, 0, "see");
        x.blanks(3);
        for (int i = 0; i < 2; i++) x.ask(i, 0, 90, 0, false);
        x.days(1);
        Check.same("one of 6 units", "64", states(x));
        Check.same("units left", 4 + 2 + 2 + 7, x.count(14));
        x.hands(2, 3);
        x.ask(2, 0, 90, 0, false);
        x.days(1);
        Check.same("two of 12 of 24", "666", states(x));
        Check.same("units left", 6 + 5 + 12 + 6, x.count(14));
    }

    private static void promise22Print() {
        PassportOffice x = start(9);
        x.blanks(3);
        x.hands(0, 9);
        x.hands(1, 9);
        x.hands(3, 0);
        x.lend(3, 1, 2, 2, 0);
        for (int i = 0; i < 5; i++) x.ask(i, 0, 90, 0, i == 4);
        x.days(1);
        Check.same("no hands", "55555", states(x));
        x.days(1);
        Check.same("three blanks", "66556", states(x));
        Check.same("the urgent one first", 4, x.booklet(0, 3));
        Check.same("units left", 72 + 72 + 8 + 5, x.count(14));
        x.hands(3, 1);
        x.blanks(1);
        x.rules(20, 30, 10, 0, 9);
        x.days(1);
        Check.same("without post", "66756", states(x));
        x.days(1);
        Check.same("by post on day 4", "77757", states(x));
        Check.same("got", 4, x.led(0, 13));
        full150();
    }

    private static void full150() {
        PassportOffice x = start(9);
        x.blanks(200);
        for (int desk = 0; desk < 4; desk++) x.hands(desk, 30);
        for (int i = 0; i < 110; i++) x.ask(i % 9, 3, 1000, 0, false);
        x.hands(1, 30);
        x.lend(1, 30, 0, 1000, 0);
        x.days(1);
        Check.same("110", 110, x.count(7));
        for (int i = 0; i < 45; i++) {
            x.lose(i);
            x.again(i);
        }
        x.days(1);
        Check.same("150 booklets", 150, x.count(7));
        Check.same("50 blanks", 50, x.count(8));
        Check.same("five wait", 5, x.queue(3));
        Check.same("200 of 240 units", 240 + 480 + 240 + 200, x.count(14));
        x.days(9);
        Check.same("and wait", 5, x.queue(3));
    }

    private static void promise22Calls() {
        PassportOffice x = start(9);
        x.hands(0, 0);
        x.rules(3, 30, 10, 2, 9);
        for (int i = 0; i < 8; i++) x.ask(i, 0, 90, 0, false);
        x.days(3);
        Check.same("not more than 3 days ago", 0, x.count(12));
        x.days(1);
        Check.same("a third of 8", 2, x.count(11));
        Check.same("in all", 2, x.count(12));
        x.ask(8, 0, 90, 0, false);
        x.refuse(0);
        x.refuse(1);
        x.days(1);
        Check.same("a third of 6", 2, x.count(11));
        Check.same("in all", 4, x.count(12));
        x.refuse(2);
        x.days(2);
        Check.same("a third of 5", 1, x.count(11));
        x.days(1);
        Check.same("a third of 6 again", 2, x.count(11));
        Check.same("in all", 8, x.count(12));
        x.hands(0, 1);
        x.days(1);
        Check.same("8 less 2", 3, x.count(3) - 3 - x.queue(0));
        Check.same("no unit of another desk", 0 + 2 + 8 + 8, x.count(14));
        PassportOffice w = start(3);
        for (int i = 0; i < 3; i++) w.ask(i, 0, 90, 0, false);
        w.days(20);
        Check.same("20 days are patience at first", 0, w.count(12));
        w.days(1);
        Check.same("21 are more", 1, w.count(12));
        PassportOffice y = start(30);
        y.rules(1, 30, 10, 2, 9);
        y.hands(0, 1);
        y.hands(1, 0);
        for (int i = 0; i < 30; i++) y.ask(i, 0, 90, 0, false);
        y.days(2);
        Check.same("ten calls", 10, y.count(11));
        Check.same("more than there are units", 0 + 8 + 8, y.count(14));
        Check.same("nothing more was read", 26, y.queue(0));
        PassportOffice z = start(3);
        Check.law(z, 0, "need deed");
        z.blanks(3);
        z.rules(1, 30, 10, 5, 9);
        z.ask(0, 0, 90, 1, false);
        z.ask(1, 0, 90, 1, false);
        z.ask(2, 0, 90, 0, false);
        z.days(2);
        Check.same("those in the post do not call", 0, z.count(11));
    }

    private static void promise22Near() {
        PassportOffice x = new PassportOffice();
        x.person(-9000, false, 0, 0, 0, 0, 0);
        x.person(-9000, false, 1, 0, 0, 0, 0);
        x.person(-9000, false, 2, 0, 0, 0, 0);
        x.tell(0, 1, false);
        x.tell(1, 2, true);
        for (int i = 0; i < 2; i++) x.ask(i, 0, 90, 0, false);
        x.days(1);
        Check.same("0 is near 2 of whom nothing is told; 1 is told to be 2", "39", states(x));
        x.rules(20, 3, 10, 2, 9);
        x.ask(0, 0, 90, 0, false);
        x.days(1);
        Check.same("4 is above 3", "395", states(x));
        Check.same("a held one takes 3 units", 6 + 5 + 8 + 8, x.count(14));
        x.rules(20, 0, 10, 2, 9);
        x.ask(1, 0, 90, 0, false);
        x.days(1);
        Check.same("told to be the same, but not near", "3955", states(x));
        x.person(-9000, false, 0, 0, 0, 0, 0);
        x.ask(0, 0, 90, 0, false);
        x.days(1);
        Check.same("limit 0 and far 0", "39553", states(x));
    }

    private static void promise27Queue() {
        PassportOffice x = start(6);
        Check.law(x, 0, "see if renew;need deed if lost;risk 9999 if second");
        for (int desk = 0; desk < 3; desk++) x.hands(desk, 30);
        x.hands(2, 0);
        x.ask(0, 0, 90, 0, false);
        x.ask(1, 1, 90, 0, false);
        x.ask(2, 1, 90, 0, false);
        x.ask(3, 2, 90, 0, false);
        Check.same("all", 4, x.queue(0));
        x.days(1);
        x.ask(4, 3, 90, 0, false);
        x.days(1);
        for (int i = 0; i < 3; i++) x.ask(5, 0, 90, 0, false);
        x.ask(5, 0, 90, 0, false);
        Check.same("read", 4, x.queue(0));
        Check.same("check", 1, x.queue(1));
        Check.same("see", 2, x.queue(2));
        Check.same("print", 1, x.queue(3));
        Check.index("desk 4", () -> x.queue(4));
        Check.index("desk -1", () -> x.queue(-1));
    }

    private static void promise28Ahead() {
        PassportOffice x = start(6);
        Check.law(x, 0, "see if renew;need deed if lost;risk 9999 if second");
        x.blanks(1);
        for (int desk = 0; desk < 3; desk++) x.hands(desk, 30);
        x.hands(2, 0);
        x.ask(0, 0, 90, 0, false);
        x.ask(1, 1, 80, 0, false);
        x.ask(2, 1, 70, 0, false);
        x.ask(3, 2, 90, 0, false);
        x.ask(0, 0, 90, 0, false);
        x.days(1);
        Check.same("states", "64415", states(x));
        Check.same("in the post", -1, x.ahead(0));
        Check.same("first at see", 0, x.ahead(1));
        Check.same("second at see", 1, x.ahead(2));
        Check.same("back", -1, x.ahead(3));
        Check.same("at print", 0, x.ahead(4));
        x.order(1);
        Check.same("second by the rule of now", 1, x.ahead(1));
        Check.same("first by the rule of now", 0, x.ahead(2));
        x.person(-9000, false, 0, 0, 0, 0, 1);
        x.ask(6, 0, 90, 0, false);
        x.days(1);
        Check.same("held", -1, x.ahead(5));
        x.refuse(5);
        Check.same("refused", -1, x.ahead(5));
        x.days(2);
        Check.same("got", -1, x.ahead(0));
        x.give(3, 1);
        Check.same("to be read", 0, x.ahead(3));
        Check.index("no such asking", () -> x.ahead(6));
        Check.index("below 0", () -> x.ahead(-1));
    }
}
