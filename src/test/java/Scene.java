/** Offices that the tests of boundary cases begin with, and what they ask of them again and again. */
final class Scene {
    private Scene() {
    }

    /** So many people, all at home and far from one another. */
    static PassportOffice people(int n) {
        PassportOffice x = new PassportOffice();
        for (int i = 0; i < n; i++) Check.apart(x, i);
        return x;
    }

    /** The same with plenty of blanks. */
    static PassportOffice ready(int people) {
        PassportOffice x = people(people);
        x.blanks(1000);
        return x;
    }

    /** The same with plenty of hands at the first three desks, and a law. */
    static PassportOffice quick(int people, String law) {
        PassportOffice x = ready(people);
        for (int desk = 0; desk < 4; desk++) x.hands(desk, 30);
        Check.law(x, 0, law);
        return x;
    }

    /** One that is asked for by a person, not urgent, with no items, wanted as late as can be. */
    static int ask(PassportOffice x, int person, int kind) {
        return x.ask(person, kind, 1000, 0, false);
    }

    static void goTo(PassportOffice x, int day) {
        while (x.count(0) < day) x.days(Math.min(60, day - x.count(0)));
    }

    static void state(String what, PassportOffice x, int asking, int due) {
        Check.same(what + ": state of " + asking, due, x.led(asking, 0));
    }

    /** The states of all askings, a digit each. */
    static String states(PassportOffice x) {
        StringBuilder text = new StringBuilder();
        for (int i = 0; i < x.count(3); i++) text.append(x.led(i, 0));
        return text.toString();
    }

    /** All signs of a name. */
    static String signs(PassportOffice x, int person) {
        StringBuilder text = new StringBuilder();
        for (int i = 0; i < 24; i++) text.append((char) x.sign(person, i));
        return text.toString();
    }
}
