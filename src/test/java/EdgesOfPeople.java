/** The boundary cases of people and their faces: promises 6, 10 and 11. */
final class EdgesOfPeople {
    private EdgesOfPeople() {
    }

    static void all() {
        Edge.of("PEOPLE (at most 80, numbered from 0 on):", EdgesOfPeople::peopleAreAtMost80);
        Edge.of("BORN on a day (- 40000 to TODAY),", EdgesOfPeople::bornUpToToday);
        Edge.of("ABROAD or not, a FACE of five numbers (0 to 99),", EdgesOfPeople::faceOfFive);
        Edge.of("FAR of two of PEOPLE: the sum of the squares of what their five numbers differ by.", EdgesOfPeople::farOfTwo);
        Edge.of("NEAR: FAR is at most LIMIT (0 to 10000; 30 at first), and they are two.", EdgesOfPeople::near);
        Edge.of("Of two it may be TOLD that they are SAME, or OTHER (the latest telling counts).", EdgesOfPeople::latestTelling);
        Edge.of("One of PEOPLE: its number. IllegalArgumentException: a number is none; "
            + "UnsupportedOperationException: there are 80.", EdgesOfPeople::exceptionsOfPerson);
        Edge.of("FAR.", EdgesOfPeople::farOfSome);
        Edge.of("Two are TOLD to be SAME, or OTHER: how many HELD askings are not HELD any more. "
            + "IllegalArgumentException: they are one.", EdgesOfPeople::tellingTwo);
    }

    private static void peopleAreAtMost80() {
        PassportOffice x = new PassportOffice();
        for (int i = 0; i < 80; i++) Check.same("number", i, Check.apart(x, i));
        Check.full("an 81st", () -> Check.apart(x, 80));
        Check.same("80", 80, x.count(1));
        Check.same("the last", -1, x.figure(79));
        Check.index("none behind", () -> x.figure(80));
        Check.name(x, 79, "a");
        Check.same("its name", 'A', x.sign(79, 0));
        Check.same("not the name of the one ahead", -1, x.sign(78, 0));
    }

    private static void bornUpToToday() {
        PassportOffice x = new PassportOffice();
        Check.argument("-40001", () -> x.person(-40001, false, 0, 0, 0, 0, 0));
        Check.same("-40000", 0, x.person(-40000, false, 0, 0, 0, 0, 0));
        Check.same("today", 1, x.person(0, false, 0, 0, 0, 0, 0));
        Check.argument("tomorrow", () -> x.person(1, false, 0, 0, 0, 0, 0));
        Check.argument("the least number", () -> x.person(Integer.MIN_VALUE, false, 0, 0, 0, 0, 0));
        Check.argument("the greatest number", () -> x.person(Integer.MAX_VALUE, false, 0, 0, 0, 0, 0));
        x.days(9);
        Check.same("day 9", 2, x.person(9, false, 0, 0, 0, 0, 0));
        Check.argument("day 10", () -> x.person(10, false, 0, 0, 0, 0, 0));
        Scene.goTo(x, 1000);
        Check.same("the last day", 3, x.person(1000, false, 0, 0, 0, 0, 0));
        Check.argument("behind it", () -> x.person(1001, false, 0, 0, 0, 0, 0));
        Check.same("-40000 at last", 4, x.person(-40000, false, 0, 0, 0, 0, 0));
        Check.argument("-40001 at last", () -> x.person(-40001, false, 0, 0, 0, 0, 0));
    }

    /** One whose face has a number at a place, and 7 at the others. */
    private static int face(PassportOffice x, int place, int number) {
        int[] n = {7, 7, 7, 7, 7};
        n[place] = number;
        return x.person(0, true, n[0], n[1], n[2], n[3], n[4]);
    }

    private static void faceOfFive() {
        PassportOffice x = new PassportOffice();
        for (int i = 0; i < 5; i++) {
            int place = i;
            Check.argument("-1 at " + i, () -> face(x, place, -1));
            Check.same("0 at " + i, 2 * i, face(x, place, 0));
            Check.same("99 at " + i, 2 * i + 1, face(x, place, 99));
            Check.argument("100 at " + i, () -> face(x, place, 100));
            Check.argument("the least number", () -> face(x, place, Integer.MIN_VALUE));
            Check.argument("the greatest number", () -> face(x, place, Integer.MAX_VALUE));
        }
        Check.same("ten came", 10, x.count(1));
    }

    private static void farOfTwo() {
        PassportOffice x = new PassportOffice();
        for (int i = 0; i < 5; i++) face(x, i, 7 + i + 1);
        face(x, 0, 7);
        for (int i = 0; i < 5; i++) {
            Check.same("that place alone", (i + 1) * (i + 1), x.far(i, 5));
            Check.same("the other way", (i + 1) * (i + 1), x.far(5, i));
        }
        Check.same("two places", 4 + 25, x.far(1, 4));
        Check.same("one and itself", 0, x.far(3, 3));
        x.person(0, false, 0, 0, 0, 0, 0);
        x.person(0, false, 99, 99, 99, 99, 99);
        x.person(0, false, 99, 0, 99, 0, 99);
        Check.same("the farthest", 49005, x.far(6, 7));
        Check.same("below and above", 5 * 9801, x.far(7, 6));
        Check.same("two of five", 2 * 9801, x.far(8, 7));
        Check.same("alike", 0, x.far(face(x, 0, 9), face(x, 0, 9)));
    }

    /** The state of an asking of one who is so far from another one, with a limit (below 0: that at first). */
    private static int stateOf(int a, int b, int c, int limit) {
        return stateOf(a, b, c, 0, limit);
    }

    private static int stateOf(int a, int b, int c, int d, int limit) {
        PassportOffice x = Scene.people(0);
        x.person(0, false, 0, 0, 0, 0, 0);
        x.person(0, false, a, b, c, d, 0);
        if (limit >= 0) x.rules(20, limit, 10, 2, 9);
        Scene.ask(x, 0, 0);
        x.days(1);
        return x.led(0, 0);
    }

    private static void near() {
        Check.same("30 at first", 3, stateOf(5, 2, 1, -1));
        Check.same("31 at first", 5, stateOf(5, 2, 1, 1, -1));
        Check.same("0 with limit 0", 3, stateOf(0, 0, 0, 0));
        Check.same("1 with limit 0", 5, stateOf(1, 0, 0, 0));
        Check.same("1 with limit 1", 3, stateOf(1, 0, 0, 1));
        Check.same("2 with limit 1", 5, stateOf(1, 1, 0, 1));
        Check.same("10000 with limit 10000", 3, stateOf(60, 80, 0, 10000));
        Check.same("10001 with limit 10000", 5, stateOf(65, 76, 0, 10000));
        Check.same("9998 with limit 9997", 5, stateOf(99, 14, 1, 9997));
        Check.same("9998 with limit 9998", 3, stateOf(99, 14, 1, 9998));
        PassportOffice x = Scene.people(1);
        x.rules(20, 10000, 10, 2, 9);
        Scene.ask(x, 0, 0);
        x.days(1);
        Scene.state("one alone is not near itself", x, 0, 5);
    }

    private static void latestTelling() {
        int[] due = {5, 9};
        for (int last = 0; last < 2; last++) {
            PassportOffice x = Scene.people(0);
            x.person(0, false, 0, 0, 0, 0, 0);
            x.person(0, false, 1, 0, 0, 0, 0);
            x.tell(0, 1, last == 0);
            x.tell(1, 0, last == 1);
            Scene.ask(x, 0, 0);
            Scene.ask(x, 1, 0);
            x.days(1);
            Scene.state("the latest, told the other way round", x, 0, due[last]);
            Scene.state("of both", x, 1, due[last]);
            x.tell(1, 0, last == 0);
            Scene.ask(x, 0, 0);
            x.days(1);
            Scene.state("the latest, told the same way", x, 2, due[1 - last]);
            Scene.state("it was not held", x, 0, due[last]);
        }
        PassportOffice y = new PassportOffice();
        for (int i = 0; i < 80; i++) y.person(0, false, i == 79 || i == 0 ? 99 : i, 0, 0, 0, 0);
        y.rules(20, 0, 10, 2, 9);
        y.tell(79, 0, false);
        Scene.ask(y, 79, 0);
        Scene.ask(y, 0, 0);
        y.days(1);
        Check.same("of the first and the last of 80", "55", Scene.states(y));
    }

    private static void exceptionsOfPerson() {
        PassportOffice x = new PassportOffice();
        for (int i = 0; i < 79; i++) Check.apart(x, i);
        Check.argument("a wrong 80th", () -> x.person(1, false, 0, 0, 0, 0, 0));
        Check.same("no number is used up by it", 79, Check.apart(x, 79));
        Check.argument("a wrong number goes ahead of the 80", () -> x.person(0, false, 0, 0, 0, 0, 100));
        Check.argument("a wrong day goes ahead of the 80", () -> x.person(1, false, 0, 0, 0, 0, 0));
        Check.full("80", () -> x.person(0, false, 0, 0, 0, 0, 0));
        Check.same("80 still", 80, x.count(1));
    }

    private static void farOfSome() {
        PassportOffice x = Scene.people(2);
        Check.same("0 and 1", 100, x.far(0, 1));
        Check.index("2 and 0", () -> x.far(2, 0));
        Check.index("0 and 2", () -> x.far(0, 2));
        Check.index("-1 and 0", () -> x.far(-1, 0));
        Check.index("0 and -1", () -> x.far(0, -1));
        Check.index("the least numbers", () -> x.far(Integer.MIN_VALUE, Integer.MIN_VALUE));
        Check.index("the greatest numbers", () -> x.far(Integer.MAX_VALUE, Integer.MAX_VALUE));
    }

    private static void tellingTwo() {
        PassportOffice x = Scene.ready(2);
        x.person(-9000, false, 0, 1, 0, 0, 0);
        Check.index("3 and 0", () -> x.tell(3, 0, true));
        Check.index("0 and 3", () -> x.tell(0, 3, true));
        Check.index("-1 and 0", () -> x.tell(-1, 0, true));
        Check.index("0 and -1", () -> x.tell(0, -1, true));
        Check.index("no such one goes ahead of one alone", () -> x.tell(3, 3, false));
        Check.argument("one alone", () -> x.tell(2, 2, true));
        Check.argument("one alone, other", () -> x.tell(0, 0, false));
        Check.same("none is held yet", 0, x.tell(1, 2, true));
        x.hands(0, 9);
        x.hands(1, 9);
        for (int i = 0; i < 3; i++) Scene.ask(x, 0, 0);
        Scene.ask(x, 2, 0);
        x.days(1);
        Check.same("four are held", 4, x.count(6));
        Check.same("of two others: none", 0, x.tell(1, 0, false));
        Check.same("of the two: all four", 4, x.tell(2, 0, false));
        Check.same("none is held any more", 0, x.tell(2, 0, true));
        Check.same("and none is held again", 0, x.count(6));
    }
}
