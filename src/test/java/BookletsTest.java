/** Promises 29, 30 and 33: booklets, how long they are valid, when they end. */
final class BookletsTest {
    public static void main(String[] args) {
        promise29Booklet();
        promise30Valid();
        promise30EndsOthers();
        promise33Ends();
        Check.close();
    }

    private static PassportOffice start() {
        PassportOffice x = new PassportOffice();
        Check.apart(x, 0);
        Check.apart(x, 1);
        x.blanks(50);
        for (int desk = 0; desk < 4; desk++) x.hands(desk, 9);
        return x;
    }

    private static void booklet(PassportOffice x, int number, int... due) {
        for (int i = 0; i < 4; i++) Check.same("booklet " + number + " what " + i, due[i], x.booklet(number, i));
    }

    private static void promise29Booklet() {
        PassportOffice x = start();
        Check.index("none is there", () -> x.booklet(0, 0));
        x.ask(0, 0, 9, 0, false);
        x.ask(1, 0, 9, 0, true);
        Check.index("none is printed", () -> x.booklet(0, 0));
        x.days(1);
        booklet(x, 0, 1, 1, 3651, 1);
        booklet(x, 1, 0, 1, 3651, 0);
        Check.index("no such one", () -> x.booklet(2, 0));
        Check.index("below 0", () -> x.booklet(-1, 0));
        Check.index("booklet goes ahead", () -> x.booklet(2, 4));
        Check.noSuch("what 4", () -> x.booklet(1, 4));
        Check.noSuch("what -1", () -> x.booklet(1, -1));
        x.missed(0, 60);
        Check.index("nor behind a trial", () -> x.booklet(2, 0));
    }

    private static void promise30Valid() {
        PassportOffice x = start();
        Check.law(x, 0, "years 1 if first;years 0 if lost;years 9999 if second");
        x.ask(0, 0, 9, 0, false);
        x.ask(1, 3, 9, 0, false);
        x.days(1);
        int[] days = {Integer.MIN_VALUE, -1, 0, 1, 365, 366, 367, Integer.MAX_VALUE};
        int[] due = {0, 0, 0, 1, 1, 0, 0, 0};
        for (int i = 0; i < days.length; i++) Check.same("valid on " + days[i], due[i], x.valid(0, days[i]));
        Check.same("years 9999", 1, x.valid(1, 9999 * 365));
        Check.same("not on its end", 0, x.valid(1, 9999 * 365 + 1));
        x.ask(1, 2, 9, 0, false);
        x.days(1);
        Check.same("years 0: ended as it began", 2, x.booklet(2, 2));
        Check.same("and ended the one before", 0, x.valid(1, 2));
        Check.same("that was valid", 1, x.valid(1, 1));
        Check.index("no such person", () -> x.valid(2, 0));
        Check.index("below 0", () -> x.valid(-1, 0));
    }

    private static void promise30EndsOthers() {
        PassportOffice x = start();
        Check.law(x, 0, "years 1 if renew");
        x.ask(0, 0, 9, 0, false);
        x.ask(1, 0, 9, 0, false);
        x.days(1);
        x.ask(0, 3, 9, 0, false);
        x.days(1);
        Check.same("a second one ends none", 2, x.valid(0, 2));
        x.ask(0, 1, 9, 0, false);
        x.days(1);
        Check.same("a renewed one ends both", 1, x.valid(0, 3));
        Check.same("they end today", 3, x.booklet(0, 2));
        Check.same("they end today", 3, x.booklet(2, 2));
        Check.same("not those of others", 3651, x.booklet(1, 2));
        x.ask(0, 0, 9, 0, false);
        x.ask(0, 2, 9, 0, false);
        x.days(1);
        Check.same("ends that have been stay", 3, x.booklet(0, 2));
        Check.same("the renewed one ends", 4, x.booklet(3, 2));
        Check.same("two on one day: the first ends as it began", 4, x.booklet(4, 2));
        Check.same("the latest stays", 3654, x.booklet(5, 2));
        Check.same("one is valid", 1, x.valid(0, 4));
    }

    private static void promise33Ends() {
        PassportOffice x = start();
        Check.same("none", 0, x.ends(Integer.MIN_VALUE, Integer.MAX_VALUE));
        Check.law(x, 0, "years 1 if first;years 2 if lost");
        x.ask(0, 0, 9, 0, false);
        x.ask(1, 2, 9, 0, false);
        x.days(1);
        Check.same("both", 2, x.ends(366, 731));
        Check.same("from is one of them", 1, x.ends(366, 366));
        Check.same("to is one of them", 1, x.ends(367, 731));
        Check.same("behind", 1, x.ends(367, 9999));
        Check.same("ahead", 1, x.ends(0, 730));
        Check.same("between", 0, x.ends(367, 730));
        Check.same("turned round", 0, x.ends(731, 366));
        Check.same("all days", 2, x.ends(Integer.MIN_VALUE, Integer.MAX_VALUE));
        x.lose(0);
        Check.same("as it is known now", 1, x.ends(1, 1));
        Check.same("as it is known now", 0, x.ends(366, 366));
        x.ask(1, 0, 9, 0, false);
        x.days(1);
        Check.same("ended by another one", 1, x.ends(2, 2));
        x.missed(0, 60);
        Check.same("three in all", 3, x.ends(0, 9999));
    }
}
