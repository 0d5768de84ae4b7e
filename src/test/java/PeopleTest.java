/** Promises 6, 10 and 11: people, how far they are, what is told of two. */
final class PeopleTest {
    public static void main(String[] args) {
        promise6Person();
        promise6PersonWrong();
        promise10Far();
        promise11Tell();
        promise11Latest();
        promise11AskedAgain();
        Check.close();
    }

    private static void promise6Person() {
        PassportOffice x = new PassportOffice();
        Check.same("the earliest birth", 0, x.person(-40000, true, 0, 0, 0, 0, 0));
        Check.same("born today", 1, x.person(0, false, 99, 99, 99, 99, 99));
        x.days(7);
        Check.same("born on day 7", 2, x.person(7, false, 0, 0, 0, 0, 0));
        Check.same("people", 3, x.count(1));
        for (int i = 3; i < 80; i++) Check.same("person", i, x.person(0, false, 0, 0, 0, 0, 0));
        Check.full("an 81st", () -> x.person(0, false, 0, 0, 0, 0, 0));
        Check.argument("a wrong one goes ahead", () -> x.person(8, false, 0, 0, 0, 0, 0));
        Check.same("80", 80, x.count(1));
        Check.same("the last one stands", 0, x.far(79, 78));
        x.tell(79, 78, true);
    }

    private static void promise6PersonWrong() {
        PassportOffice x = new PassportOffice();
        Check.argument("too early", () -> x.person(-40001, false, 0, 0, 0, 0, 0));
        Check.argument("tomorrow", () -> x.person(1, false, 0, 0, 0, 0, 0));
        Check.argument("a below", () -> x.person(0, false, -1, 0, 0, 0, 0));
        Check.argument("b below", () -> x.person(0, false, 0, -1, 0, 0, 0));
        Check.argument("c below", () -> x.person(0, false, 0, 0, -1, 0, 0));
        Check.argument("d below", () -> x.person(0, false, 0, 0, 0, -1, 0));
        Check.argument("e below", () -> x.person(0, false, 0, 0, 0, 0, -1));
        Check.argument("a above", () -> x.person(0, false, 100, 0, 0, 0, 0));
        Check.argument("b above", () -> x.person(0, false, 0, 100, 0, 0, 0));
        Check.argument("c above", () -> x.person(0, false, 0, 0, 100, 0, 0));
        Check.argument("d above", () -> x.person(0, false, 0, 0, 0, 100, 0));
        Check.argument("e above", () -> x.person(0, false, 0, 0, 0, 0, 100));
        Check.same("nobody came", 0, x.count(1));
    }

    private static void promise10Far() {
        PassportOffice x = new PassportOffice();
        x.person(0, false, 1, 2, 3, 4, 5);
        x.person(0, false, 11, 4, 0, 9, 4);
        x.person(0, false, 0, 0, 0, 0, 0);
        x.person(0, false, 99, 99, 99, 99, 99);
        Check.same("far", 100 + 4 + 9 + 25 + 1, x.far(0, 1));
        Check.same("the other way", 139, x.far(1, 0));
        Check.same("of one", 0, x.far(1, 1));
        Check.same("the farthest", 5 * 99 * 99, x.far(2, 3));
        Check.index("no such a", () -> x.far(4, 0));
        Check.index("no such b", () -> x.far(0, 4));
        Check.index("a below 0", () -> x.far(-1, 0));
        Check.index("b below 0", () -> x.far(0, -1));
    }

    /** Two near ones and a third that is far; blanks; an asking of each near one. */
    private static PassportOffice held() {
        PassportOffice x = new PassportOffice();
        x.person(-9000, false, 0, 0, 0, 0, 0);
        x.person(-9000, false, 5, 2, 1, 0, 0);
        x.person(-9000, false, 50, 0, 0, 0, 0);
        x.blanks(9);
        x.ask(0, 0, 50, 0, false);
        x.ask(1, 0, 50, 0, false);
        return x;
    }

    private static void promise11Tell() {
        PassportOffice x = held();
        Check.same("30 is the first limit", 30, x.far(0, 1));
        x.days(1);
        Check.same("held", 2, x.count(6));
        Check.index("no such a", () -> x.tell(3, 0, true));
        Check.index("no such b", () -> x.tell(0, 3, true));
        Check.index("below 0", () -> x.tell(-1, 0, true));
        Check.index("no such pair goes ahead of one alone", () -> x.tell(3, 3, true));
        Check.argument("one alone", () -> x.tell(1, 1, true));
        Check.same("of a far one", 0, x.tell(2, 0, true));
        Check.same("both are free", 2, x.tell(1, 0, false));
        Check.same("to be printed", 5, x.led(0, 0));
        Check.same("to be printed", 5, x.led(1, 0));
        Check.same("nobody is held", 0, x.tell(1, 0, true));
        Check.same("it is not asked again", 5, x.led(0, 0));

        PassportOffice y = held();
        y.days(1);
        Check.same("both are refused", 2, y.tell(0, 1, true));
        Check.same("refused", 9, y.led(0, 0));
        Check.same("refused", 9, y.led(1, 0));

        PassportOffice w = new PassportOffice();
        w.person(-9000, false, 0, 0, 0, 0, 0);
        w.person(-9000, false, 5, 2, 1, 1, 0);
        Check.same("one more than the first limit", 31, w.far(0, 1));
        w.ask(0, 0, 50, 0, false);
        w.days(1);
        Check.same("not near", 5, w.led(0, 0));
        PassportOffice z = new PassportOffice();
        z.person(-9000, false, 0, 0, 0, 0, 0);
        z.person(-9000, false, 31, 0, 0, 0, 0);
        z.rules(20, 960, 10, 2, 9);
        z.ask(0, 0, 50, 0, false);
        z.days(1);
        Check.same("961 is not within 960", 5, z.led(0, 0));
    }

    private static void promise11Latest() {
        PassportOffice x = held();
        x.person(-9000, false, 1, 1, 1, 1, 1);
        x.tell(0, 1, true);
        x.tell(1, 0, false);
        x.days(1);
        Check.same("nothing told of the fourth", 3, x.led(0, 0));
        Check.same("the fourth is near both", 3, x.led(1, 0));
        Check.same("all is told of person 1", 1, x.tell(3, 1, false));
        Check.same("asking 0 is held", 3, x.led(0, 0));
        Check.same("asking 1 is free", 5, x.led(1, 0));
        Check.same("same goes ahead of one untold", 1, x.tell(0, 3, true));
        Check.same("refused", 9, x.led(0, 0));
    }

    private static void promise11AskedAgain() {
        PassportOffice x = held();
        Check.law(x, 0, "see if second;risk 3 if renew");
        x.ask(0, 3, 50, 0, false);
        x.ask(0, 1, 50, 0, false);
        x.hands(1, 30);
        x.hands(0, 30);
        x.days(1);
        Check.same("four held", 4, x.count(6));
        x.rules(20, 30, 2, 2, 9);
        x.days(1);
        Check.same("not asked again by a day", 4, x.count(6));
        x.rules(20, 29, 2, 2, 9);
        Check.same("nor by rules", 4, x.count(6));
        Check.same("by any telling", 4, x.tell(2, 1, true));
        Check.same("kind first", 5, x.led(0, 0));
        Check.same("with see", 4, x.led(2, 0));
        Check.same("risk above doubt", 4, x.led(3, 0));
        Check.same("no units, and none was printed", 0, x.count(7));
    }
}
