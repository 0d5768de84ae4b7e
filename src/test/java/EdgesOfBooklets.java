/** The boundary cases of booklets: promises 29, 30 and 33. */
final class EdgesOfBooklets {
    private static final int LEAST = Integer.MIN_VALUE;
    private static final int GREATEST = Integer.MAX_VALUE;

    private EdgesOfBooklets() {
    }

    static void all() {
        Edge.of("BOOKLETS (at most 150, numbered from 0 on):", EdgesOfBooklets::bookletsAreAtMost150);
        Edge.of("of a person, from the day it was printed up to YEARS times 365 days behind, that one not;",
            EdgesOfBooklets::yearsTimes365);
        Edge.of("VALID on a day: not ahead of its first, ahead of its end.", EdgesOfBooklets::validOnADay);
        Edge.of("As one is printed all others of that person that are VALID end TODAY, but for an asking of kind second.",
            EdgesOfBooklets::othersEnd);
        Edge.of("Of a BOOKLET what 0 person, 1 its first day, 2 its end, 3 its asking. NoSuchElementException: another what.",
            EdgesOfBooklets::whatsOfABooklet);
        Edge.of("How many BOOKLETS of a person are VALID on a day.", EdgesOfBooklets::howManyAreValid);
        Edge.of("ENDS from a day to another one (both too): how many BOOKLETS end on one of these days "
            + "(all their life long, as it is known now).", EdgesOfBooklets::ends);
        Edge.of("ENDS.", EdgesOfBooklets::endsOfNoDays);
    }

    private static void bookletsAreAtMost150() {
        PassportOffice none = Scene.quick(1, "");
        Check.index("none", () -> none.booklet(0, 0));
        Scene.ask(none, 0, 0);
        Check.index("none yet", () -> none.booklet(0, 0));
        none.days(1);
        Check.same("number 0", 0, none.booklet(0, 3));
        Check.index("no number 1", () -> none.booklet(1, 0));
        none.missed(0, 60);
        Check.index("nor by what would be missed", () -> none.booklet(1, 0));
        PassportOffice x = Full.booklets(150);
        Check.same("150", 150, x.count(7));
        Check.same("the first", 0, x.booklet(0, 3));
        Check.same("the 120th", 119, x.booklet(119, 3));
        Check.same("the 121st", 90, x.booklet(120, 3));
        Check.same("the last", 119, x.booklet(149, 3));
        Check.same("its number", 149, x.led(119, 11));
        Check.index("none behind", () -> x.booklet(150, 0));
        x.lose(5);
        x.again(5);
        x.days(2);
        Check.same("no 151st", 150, x.count(7));
        Check.index("none behind", () -> x.booklet(150, 0));
        Check.same("its booklet is the one it was", 5, x.led(5, 11));
    }

    private static void yearsTimes365() {
        int[] years = {0, 1, 2, 10, 9999};
        for (int y : years) {
            PassportOffice x = Scene.quick(1, "years " + y);
            Scene.goTo(x, 7);
            Scene.ask(x, 0, 0);
            x.days(1);
            Check.same("its first day", 8, x.booklet(0, 1));
            Check.same("the end of " + y + " years", 8 + 365 * y, x.booklet(0, 2));
            Check.same("on the last day ahead of it", y == 0 ? 0 : 1, x.valid(0, 8 + 365 * y - 1));
            Check.same("that one not", 0, x.valid(0, 8 + 365 * y));
        }
        PassportOffice x = Scene.quick(1, "");
        Scene.goTo(x, 999);
        Scene.ask(x, 0, 0);
        x.days(1);
        Check.same("ten years from the last day", 1000 + 3650, x.booklet(0, 2));
    }

    private static void validOnADay() {
        PassportOffice x = Scene.quick(1, "years 1");
        x.days(4);
        Scene.ask(x, 0, 0);
        Check.same("not as it is asked for", 0, x.valid(0, 5));
        x.days(1);
        int[] days = {LEAST, -1, 0, 4, 5, 6, 369, 370, 371, GREATEST};
        int[] due = {0, 0, 0, 0, 1, 1, 1, 0, 0, 0};
        for (int i = 0; i < days.length; i++) Check.same("on day " + days[i], due[i], x.valid(0, days[i]));
    }

    private static void othersEnd() {
        PassportOffice x = Scene.quick(2, "years 1");
        for (int kind = 0; kind < 3; kind++) {
            Scene.ask(x, 0, kind);
            Scene.ask(x, 1, kind);
            x.days(1);
            for (int who = 0; who < 2; who++) {
                Check.same("the new one alone is valid", 1, x.valid(who, kind + 1));
                Check.same("its end", kind + 366, x.booklet(2 * kind + who, 2));
                if (kind > 0) Check.same("the other one ends that day", kind + 1, x.booklet(2 * kind - 2 + who, 2));
                if (kind > 1) Check.same("one that has ended stays", kind, x.booklet(2 * kind - 4 + who, 2));
            }
        }
        Scene.ask(x, 0, 3);
        x.days(1);
        Check.same("a second one ends none", 368, x.booklet(4, 2));
        Check.same("both are valid", 2, x.valid(0, 4));
        Scene.ask(x, 0, 1);
        x.days(1);
        Check.same("all others end: the renewed one", 5, x.booklet(4, 2));
        Check.same("all others end: the second one", 5, x.booklet(6, 2));
        Check.same("not those of another person", 368, x.booklet(5, 2));
        PassportOffice y = Scene.quick(1, "years 1");
        for (int i = 0; i < 3; i++) Scene.ask(y, 0, 0);
        y.days(1);
        Check.same("of three on one day the first ends as it begins", 1, y.booklet(0, 2));
        Check.same("and the second", 1, y.booklet(1, 2));
        Check.same("the last one is valid", 366, y.booklet(2, 2));
        Scene.goTo(y, 365);
        Scene.ask(y, 0, 0);
        y.days(1);
        Check.same("one that ends on that very day", 366, y.booklet(2, 2));
        Check.same("the new one", 731, y.booklet(3, 2));
        PassportOffice z = Scene.quick(1, "years 1");
        Scene.ask(z, 0, 0);
        z.days(1);
        Scene.goTo(z, 364);
        Scene.ask(z, 0, 0);
        z.days(1);
        Check.same("one that is valid for the last day", 365, z.booklet(0, 2));
    }

    private static void whatsOfABooklet() {
        PassportOffice x = Scene.quick(3, "");
        x.days(2);
        Scene.ask(x, 1, 0);
        x.ask(2, 0, 1000, 0, true);
        x.days(1);
        int[][] due = {{2, 3, 3653, 1}, {1, 3, 3653, 0}};
        for (int i = 0; i < 2; i++) {
            for (int what = 0; what < 4; what++) Check.same("booklet " + i + " what " + what, due[i][what], x.booklet(i, what));
        }
        for (int no : new int[] {-1, 4, LEAST, GREATEST}) {
            Check.noSuch("what " + no, () -> x.booklet(1, no));
            Check.index("the booklet goes ahead", () -> x.booklet(2, no));
        }
        for (int no : new int[] {-1, 2, LEAST, GREATEST}) Check.index("booklet " + no, () -> x.booklet(no, 0));
    }

    private static void howManyAreValid() {
        PassportOffice x = Scene.quick(2, "years 1");
        Check.same("none", 0, x.valid(0, 0));
        for (int i = 0; i < 5; i++) Scene.ask(x, 0, 3);
        Scene.ask(x, 1, 3);
        x.days(1);
        Check.same("five", 5, x.valid(0, 1));
        Check.same("of another one", 1, x.valid(1, 1));
        Check.same("none the day ahead", 0, x.valid(0, 0));
        Check.same("five on their last day", 5, x.valid(0, 365));
        Check.same("none on their end", 0, x.valid(0, 366));
        x.lose(0);
        Check.same("one fewer, as it is known now", 4, x.valid(0, 365));
        for (int no : new int[] {-1, 2, LEAST, GREATEST}) Check.index("person " + no, () -> x.valid(no, 1));
    }

    private static void ends() {
        PassportOffice x = Scene.quick(3, "years 1 if first;years 2 if renew");
        Check.same("none", 0, x.ends(LEAST, GREATEST));
        Scene.ask(x, 0, 0);
        Scene.ask(x, 1, 0);
        Scene.ask(x, 2, 1);
        Check.same("none is printed", 0, x.ends(LEAST, GREATEST));
        x.days(1);
        Check.same("two on day 366", 2, x.ends(366, 366));
        Check.same("from it on", 2, x.ends(366, 730));
        Check.same("from the day behind", 0, x.ends(367, 730));
        Check.same("up to it", 2, x.ends(0, 366));
        Check.same("up to the day ahead", 0, x.ends(0, 365));
        Check.same("one on day 731", 1, x.ends(731, 731));
        Check.same("both days too", 3, x.ends(366, 731));
        Check.same("all their life long", 3, x.ends(LEAST, GREATEST));
        x.lose(0);
        Check.same("as it is known now", 1, x.ends(366, 366));
        Check.same("as it is known now", 1, x.ends(1, 1));
        Scene.goTo(x, 800);
        Check.same("days that were", 2, x.ends(366, 731));
        x.missed(0, 60);
        Check.same("not those that would be", 3, x.ends(LEAST, GREATEST));
    }

    private static void endsOfNoDays() {
        PassportOffice x = Scene.quick(1, "years 0");
        Scene.ask(x, 0, 0);
        x.days(1);
        Check.same("it ends as it begins", 1, x.ends(1, 1));
        Check.same("to ahead of from", 0, x.ends(1, 0));
        Check.same("to ahead of from", 0, x.ends(2, 1));
        Check.same("to far ahead of from", 0, x.ends(GREATEST, LEAST));
        Check.same("the least day", 0, x.ends(LEAST, LEAST));
        Check.same("the greatest day", 0, x.ends(GREATEST, GREATEST));
    }
}
