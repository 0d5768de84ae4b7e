/** An office in which an asking stands in each state, with something told of everything else, too. */
final class Busy {
    /** The states of its askings, a digit each. */
    static final String STATES = "7813496250";
    static final int FAULT = 5;
    /** How many bytes its tape has: of a right law, which is no name. */
    static final int TAPE = 7;

    private Busy() {
    }

    static PassportOffice office() {
        PassportOffice x = new PassportOffice();
        for (int i = 0; i < 4; i++) Check.apart(x, i);
        x.person(-7000, true, 0, 90, 0, 0, 0);
        x.person(-7000, false, 30, 1, 0, 0, 0);
        Check.name(x, 0, "Ab-c");
        Check.law(x, 0, "need deed if lost;see if renew;risk 9 if second;fee 5;back 3");
        Check.law(x, 5, "fee 7;see if urgent;years 3");
        x.rules(2, 40, 8, 1, 3);
        x.tell(1, 2, false);
        x.order(2);
        x.blanks(6);
        x.hands(0, 2);
        x.hands(2, 0);
        x.lend(1, 2, 5, 9, 1);
        x.broken(3, 3);
        x.ask(0, 0, 8, 0, true);
        x.ask(1, 0, 7, 0, true);
        x.ask(2, 2, 9, 64, false);
        x.ask(3, 0, 6, 255, false);
        x.days(1);
        x.lose(1);
        x.ask(2, 1, 5, 0, true);
        x.ask(2, 3, 5, 0, false);
        x.refuse(5);
        x.ask(4, 0, 8, 0, true);
        x.days(1);
        x.ask(1, 3, 3, 0, false);
        x.ask(4, 0, 9, 0, true);
        x.days(1);
        x.ask(0, 1, 7, 1, false);
        Check.feed(x, "need x");
        Check.argument("so that there is a fault", () -> x.law(4));
        Check.feed(x, "see;see");
        return x;
    }
}
