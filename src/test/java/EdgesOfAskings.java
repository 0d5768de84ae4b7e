/** The boundary cases of askings, of what they lack and of their fees: promises 13, 14 and 23 to 26. */
final class EdgesOfAskings {
    private EdgesOfAskings() {
    }

    static void all() {
        Edge.of("ASKINGS (at most 120, numbered from 0 on):", EdgesOfAskings::askingsAreAtMost120);
        Edge.of("of a person, a kind (0 first, 1 renew, 2 lost, 3 second), WANTED for a day (TODAY to 1000), "
            + "with ITEMS (bits 0 to 255), urgent or not;", EdgesOfAskings::whatAnAskingIs);
        Edge.of("it pays its FEE as it comes.", EdgesOfAskings::paysAsItComes);
        Edge.of("STATE: 0 it waits to be READ, 1 BACK (something lacks), 2 it waits to be CHECKED, 3 HELD, "
            + "4 it waits to be SEEN, 5 to be PRINTED, 6 in the POST, 7 GOT, 8 LOST in the post, 9 REFUSED.",
            EdgesOfAskings::allStates);
        Edge.of("LACKS: NEEDS without what was given.", EdgesOfAskings::lacks);
        Edge.of("An asking: its number. IllegalArgumentException: kind, WANTED or ITEMS are none; "
            + "UnsupportedOperationException: there are 120.", EdgesOfAskings::exceptionsOfAsk);
        Edge.of("ITEMS are given to an asking that is BACK: LACKS; with none it waits to be READ.", EdgesOfAskings::give);
        Edge.of("IllegalArgumentException: ITEMS are none.", EdgesOfAskings::giveNoItems);
        Edge.of("A LOST asking's BOOKLET ends on the day on which it is told so, if it has not ended;",
            EdgesOfAskings::lostBookletEnds);
        Edge.of("it may be printed AGAIN (it waits to be PRINTED).", EdgesOfAskings::printedAgain);
        Edge.of("BACK of FEES: an asking whose BACK is told has its FEE back as it is GOT more than BACK days behind WANTED.",
            EdgesOfAskings::feeBack);
        Edge.of("A REFUSED one has none.", EdgesOfAskings::refusedHasNoFeeBack);
        Edge.of("An asking in STATE 0 to 5 is REFUSED.", () -> inEachState("refuse", "0123456789", "9999996789"));
        Edge.of("An asking in the POST is LOST.", () -> inEachState("lose", "0123456789", "0123458789"));
        Edge.of("A LOST asking is to be printed AGAIN.", () -> inEachState("again", "0123456789", "0123456759"));
        led();
    }

    private static void led() {
        Edge.of("Of an asking what 0 STATE, 1 person, 2 kind, 3 the day it came, 4 WANTED, 5 ITEMS given, 6 LACKS, 7 FEE,",
            EdgesOfAskings::ledAsItCame);
        Edge.of("8 1 if the FEE went back, else 0,", EdgesOfAskings::ledFeeBack);
        Edge.of("9 RISK, 10 YEARS,", EdgesOfAskings::ledRiskAndYears);
        Edge.of("11 its BOOKLET (the latest; NONE),", EdgesOfAskings::ledBooklet);
        Edge.of("12 the day it was READ last (NONE),", EdgesOfAskings::ledRead);
        Edge.of("13 GOT (NONE), 14 the day it comes by POST, or came (NONE ahead of it, and once it is to be printed AGAIN),",
            EdgesOfAskings::ledPost);
        Edge.of("15 how often it was BACK.", EdgesOfAskings::ledBacks);
        Edge.of("NoSuchElementException: another what.", EdgesOfAskings::ledAnotherWhat);
    }

    private static void askingsAreAtMost120() {
        PassportOffice x = Scene.people(1);
        for (int i = 0; i < 120; i++) Check.same("number", i, Scene.ask(x, 0, 3));
        Check.full("a 121st", () -> Scene.ask(x, 0, 3));
        Check.same("120", 120, x.count(3));
        Check.same("the last one", 0, x.led(119, 0));
        Check.index("none behind", () -> x.led(120, 0));
        Check.same("all wait", 120, x.queue(0));
        Check.same("behind all others", 119, x.ahead(119));
        x.refuse(119);
        Check.full("a refused one counts too", () -> Scene.ask(x, 0, 3));
    }

    private static void whatAnAskingIs() {
        PassportOffice x = Scene.people(2);
        x.days(3);
        Check.same("the least of all", 0, x.ask(0, 0, 3, 0, false));
        Check.same("the greatest of all", 1, x.ask(1, 3, 1000, 255, true));
        for (int kind = 0; kind < 4; kind++) Check.same("kind", kind, x.led(x.ask(0, kind, 9, 0, false), 2));
        for (int bit = 1; bit < 256; bit *= 2) Check.same("bit", bit, x.led(x.ask(0, 0, 9, bit, false), 5));
        Check.same("person", 1, x.led(1, 1));
        Check.same("wanted today", 3, x.led(0, 4));
        Check.same("wanted at last", 1000, x.led(1, 4));
        Check.same("all items", 255, x.led(1, 5));
        Check.same("urgent: ahead of all", 0, x.ahead(1));
        Check.same("not urgent: behind the urgent one", 1, x.ahead(0));
    }

    private static void paysAsItComes() {
        PassportOffice x = Scene.people(1);
        Scene.ask(x, 0, 0);
        Check.same("without a law", 0, x.count(9));
        Check.law(x, 0, "fee 7;fee 5 if urgent");
        x.judge(0, 0, 9, true, 1);
        Check.same("judging takes none", 0, x.count(9));
        x.ask(0, 0, 9, 0, false);
        Check.same("at once", 7, x.count(9));
        x.ask(0, 0, 9, 0, true);
        Check.same("and of the next one", 19, x.count(9));
        x.refuse(1);
        x.days(9);
        Check.same("no more later", 19, x.count(9));
        Check.argument("a wrong one", () -> x.ask(0, 0, 1001, 0, false));
        Check.same("takes none", 19, x.count(9));
        PassportOffice y = Scene.people(1);
        Check.law(y, 0, "fee 9999;".repeat(15) + "fee 9999");
        for (int i = 0; i < 120; i++) Scene.ask(y, 0, 0);
        Check.same("the most that can be", 120 * 16 * 9999, y.count(9));
        Check.full("a 121st", () -> Scene.ask(y, 0, 0));
        Check.same("takes none", 120 * 16 * 9999, y.count(9));
    }

    private static void allStates() {
        PassportOffice x = Busy.office();
        Check.same("an asking in each state", Busy.STATES, Scene.states(x));
        for (int i = 0; i < Busy.STATES.length(); i++) {
            boolean waits = "0245".indexOf(Busy.STATES.charAt(i)) >= 0;
            Check.yes("state " + Busy.STATES.charAt(i) + " waits or not", waits == x.ahead(i) >= 0);
        }
        int[] queues = {1, 1, 1, 1};
        for (int desk = 0; desk < 4; desk++) Check.same("at desk " + desk, queues[desk], x.queue(desk));
    }

    private static void lacks() {
        PassportOffice x = Scene.people(1);
        Scene.ask(x, 0, 0);
        Check.same("of no needs", 0, x.led(0, 6));
        Check.law(x, 0, "need deed;need change");
        int[] items = {0, 1, 128, 129, 255, 126, 127, 254};
        int[] due = {129, 128, 1, 0, 0, 129, 128, 1};
        for (int i = 0; i < items.length; i++) {
            Check.same("with " + items[i], due[i], x.led(x.ask(0, 0, 9, items[i], false), 6));
        }
    }

    private static void exceptionsOfAsk() {
        PassportOffice x = Scene.people(1);
        x.days(2);
        Check.argument("kind -1", () -> x.ask(0, -1, 9, 0, false));
        Check.argument("kind 4", () -> x.ask(0, 4, 9, 0, false));
        Check.argument("wanted yesterday", () -> x.ask(0, 0, 1, 0, false));
        Check.argument("wanted behind the last day", () -> x.ask(0, 0, 1001, 0, false));
        Check.argument("items -1", () -> x.ask(0, 0, 9, -1, false));
        Check.argument("items 256", () -> x.ask(0, 0, 9, 256, false));
        for (int odd : new int[] {Integer.MIN_VALUE, Integer.MAX_VALUE}) {
            Check.index("person", () -> x.ask(odd, 0, 9, 0, false));
            Check.argument("kind", () -> x.ask(0, odd, 9, 0, false));
            Check.argument("wanted", () -> x.ask(0, 0, odd, 0, false));
            Check.argument("items", () -> x.ask(0, 0, 9, odd, false));
        }
        Check.index("person 1", () -> x.ask(1, 0, 9, 0, false));
        Check.index("person -1", () -> x.ask(-1, 0, 9, 0, false));
        Check.index("person ahead of all", () -> x.ask(1, 4, 1, 256, false));
        Check.same("none came", 0, x.count(3));
        for (int i = 0; i < 120; i++) Scene.ask(x, 0, 0);
        Check.index("person ahead of the 120", () -> x.ask(1, 0, 9, 0, false));
        Check.argument("kind ahead of the 120", () -> x.ask(0, 4, 9, 0, false));
        Check.argument("wanted ahead of the 120", () -> x.ask(0, 0, 1, 0, false));
        Check.argument("items ahead of the 120", () -> x.ask(0, 0, 9, 256, false));
        Check.full("120", () -> x.ask(0, 0, 9, 0, false));
    }

    /** One that is back and lacks deed, photo and change. */
    private static PassportOffice back() {
        PassportOffice x = Scene.people(1);
        Check.law(x, 0, "need deed;need photo;need change");
        Scene.ask(x, 0, 0);
        x.days(1);
        Scene.state("it lacks", x, 0, 1);
        return x;
    }

    private static void give() {
        PassportOffice x = back();
        Check.same("nothing", 131, x.give(0, 0));
        Check.same("the others", 131, x.give(0, 124));
        Check.same("one", 130, x.give(0, 1));
        Scene.state("back still", x, 0, 1);
        Check.same("it again", 130, x.give(0, 1));
        Check.same("two", 128, x.give(0, 3));
        Scene.state("back still", x, 0, 1);
        Check.same("the last", 0, x.give(0, 128));
        Scene.state("it waits to be read", x, 0, 0);
        Check.same("all that was given", 255, x.led(0, 5));
        Check.same("all at once", 0, back().give(0, 131));
        Check.same("more than all", 0, back().give(0, 255));
        PassportOffice busy = Busy.office();
        for (int i = 0; i < Busy.STATES.length(); i++) {
            int asking = i;
            if (Busy.STATES.charAt(i) == '1') Check.same("back", 1, busy.give(i, 0));
            else Check.state("state " + Busy.STATES.charAt(i), () -> busy.give(asking, 0));
        }
        Check.same("the states as they were", Busy.STATES, Scene.states(busy));
    }

    private static void giveNoItems() {
        PassportOffice x = back();
        Check.argument("-1", () -> x.give(0, -1));
        Check.argument("256", () -> x.give(0, 256));
        Check.argument("the least number", () -> x.give(0, Integer.MIN_VALUE));
        Check.argument("the greatest number", () -> x.give(0, Integer.MAX_VALUE));
        Check.same("nothing was given", 0, x.led(0, 5));
        Check.same("255", 0, x.give(0, 255));
        Check.argument("items go ahead of the state", () -> x.give(0, 256));
        Check.state("it is back no more", () -> x.give(0, 255));
        Check.index("asking 1", () -> x.give(1, 0));
        Check.index("asking -1", () -> x.give(-1, 0));
        Check.index("the asking goes ahead of the items", () -> x.give(1, 256));
    }

    /** Does a thing to each asking of the busy office: from which state to which one; a state that stays is refused. */
    private static void inEachState(String thing, String from, String to) {
        for (int i = 0; i < Busy.STATES.length(); i++) {
            PassportOffice x = Busy.office();
            int asking = i;
            char state = Busy.STATES.charAt(i);
            char due = to.charAt(from.indexOf(state));
            Check.Call call = () -> act(x, thing, asking);
            if (due == state) Check.state(thing + " in state " + state, call);
            else call.run();
            Check.same(thing + " in state " + state, Busy.STATES.replace(state, due), Scene.states(x).replace(state, due));
            Check.same(thing + " in state " + state, due - '0', x.led(i, 0));
            Check.index("no asking " + Busy.STATES.length(), () -> act(x, thing, Busy.STATES.length()));
            Check.index("no asking -1", () -> act(x, thing, -1));
            Check.index("nor the least", () -> act(x, thing, Integer.MIN_VALUE));
            Check.index("nor the greatest", () -> act(x, thing, Integer.MAX_VALUE));
        }
    }

    private static void act(PassportOffice x, String thing, int asking) {
        if (thing.equals("refuse")) x.refuse(asking);
        else if (thing.equals("lose")) x.lose(asking);
        else x.again(asking);
    }

    private static void lostBookletEnds() {
        PassportOffice x = Scene.quick(3, "years 0 if lost");
        x.rules(20, 30, 10, 9, 9);
        Scene.ask(x, 0, 0);
        Scene.ask(x, 1, 2);
        x.days(1);
        Check.same("its end at first", 3651, x.booklet(0, 2));
        x.lose(0);
        Check.same("on the day it was printed", 1, x.booklet(0, 2));
        Check.same("valid on no day", 0, x.valid(0, 1));
        Scene.ask(x, 2, 0);
        x.days(3);
        x.lose(1);
        Check.same("one that ended as it began", 1, x.booklet(1, 2));
        Check.same("one that is valid", 3652, x.booklet(2, 2));
        x.lose(2);
        Check.same("ends that day", 4, x.booklet(2, 2));
        Check.same("valid the day ahead", 1, x.valid(2, 3));
        Check.same("not that day", 0, x.valid(2, 4));
        PassportOffice y = Scene.quick(1, "");
        y.rules(20, 30, 10, 9, 9);
        Scene.ask(y, 0, 0);
        y.days(1);
        Scene.ask(y, 0, 1);
        y.days(1);
        Check.same("ended by the next one", 2, y.booklet(0, 2));
        y.days(1);
        y.lose(0);
        Check.same("it had ended", 2, y.booklet(0, 2));
        Check.same("not the booklet of another asking", 3652, y.booklet(1, 2));
    }

    private static void printedAgain() {
        PassportOffice x = Scene.quick(1, "");
        Scene.ask(x, 0, 0);
        x.days(1);
        x.lose(0);
        x.days(9);
        Scene.state("lost it stays", x, 0, 8);
        x.again(0);
        Scene.state("it waits to be printed", x, 0, 5);
        Check.same("at that desk", 1, x.queue(3));
        x.days(1);
        Scene.state("in the post", x, 0, 6);
        Check.same("two booklets", 2, x.count(7));
        Check.same("two blanks", 998, x.count(8));
        x.lose(0);
        x.again(0);
        x.days(1);
        Check.same("as often as it is lost", 3, x.count(7));
        x.days(2);
        Scene.state("got", x, 0, 7);
        Check.state("got it is lost no more", () -> x.lose(0));
        Check.state("nor printed again", () -> x.again(0));
    }

    private static void feeBack() {
        for (int back = 0; back < 4; back++) {
            PassportOffice x = Scene.quick(1, "fee 5;back " + back);
            // all are got on day 4
            x.rules(20, 30, 10, 3, 9);
            for (int day = 0; day < 6; day++) x.ask(0, 3, day, 0, false);
            x.days(3);
            Check.same("not ahead of it", 0, x.count(10));
            x.days(1);
            for (int day = 0; day < 6; day++) {
                Check.same("wanted for " + day + ", back " + back, day + back < 4 ? 1 : 0, x.led(day, 8));
            }
            Check.same("back " + back, 5 * (4 - back), x.count(10));
            x.days(9);
            Check.same("not later", 5 * (4 - back), x.count(10));
        }
        PassportOffice none = Scene.quick(1, "fee 5;back 0 if urgent");
        none.ask(0, 3, 0, 0, false);
        none.ask(0, 3, 0, 0, true);
        Scene.goTo(none, 60);
        Check.same("without one never", 0, none.led(0, 8));
        Check.same("with one", 1, none.led(1, 8));
        Check.same("of one alone", 5, none.count(10));
        PassportOffice same = Scene.quick(1, "fee 5;back 0");
        same.rules(20, 30, 10, 0, 0);
        same.ask(0, 3, 0, 0, false);
        same.ask(0, 3, 1, 0, false);
        same.days(1);
        Check.same("got on the day it is printed, a day late", 1, same.led(0, 8));
        Check.same("got on the day it is wanted for", 0, same.led(1, 8));
    }

    private static void refusedHasNoFeeBack() {
        PassportOffice x = Scene.quick(1, "fee 5;back 0");
        x.ask(0, 0, 0, 0, false);
        x.person(-9000, false, 0, 0, 0, 0, 0);
        x.tell(0, 1, true);
        x.ask(1, 0, 0, 0, false);
        x.refuse(0);
        x.days(30);
        Check.same("refused", "99", Scene.states(x));
        Check.same("told so", 0, x.led(0, 8));
        Check.same("at check", 0, x.led(1, 8));
        Check.same("none goes back", 0, x.count(10));
        Check.same("taken all the same", 10, x.count(9));
    }

    private static void ledAsItCame() {
        PassportOffice x = Scene.people(3);
        Check.law(x, 0, "fee 30;need photo;need deed");
        x.days(2);
        x.ask(2, 1, 9, 4 + 2, true);
        int[] due = {0, 2, 1, 2, 9, 6, 1, 30};
        for (int what = 0; what < 8; what++) Check.same("what " + what, due[what], x.led(0, what));
        x.days(1);
        x.give(0, 0);
        int[] later = {1, 2, 1, 2, 9, 6, 1, 30};
        for (int what = 0; what < 8; what++) Check.same("what " + what, later[what], x.led(0, what));
        x.give(0, 129);
        int[] given = {0, 2, 1, 2, 9, 135, 0, 30};
        for (int what = 0; what < 8; what++) Check.same("what " + what, given[what], x.led(0, what));
    }

    private static void ledFeeBack() {
        PassportOffice x = Scene.quick(1, "fee 30;back 0");
        x.ask(0, 0, 2, 0, false);
        x.days(2);
        Check.same("in the post", 0, x.led(0, 8));
        x.lose(0);
        x.days(2);
        Check.same("lost", 0, x.led(0, 8));
        x.again(0);
        x.days(2);
        Check.same("in the post again", 0, x.led(0, 8));
        x.days(1);
        Check.same("got", 1, x.led(0, 8));
    }

    private static void ledRiskAndYears() {
        PassportOffice x = Scene.people(1);
        Scene.ask(x, 0, 0);
        Check.same("no risk", 0, x.led(0, 9));
        Check.same("ten years", 10, x.led(0, 10));
        Check.law(x, 0, "risk 0;years 0");
        Scene.ask(x, 0, 0);
        Check.same("risk 0", 0, x.led(1, 9));
        Check.same("years 0", 0, x.led(1, 10));
        Check.law(x, 0, "risk 9999;risk 9999;years 9999");
        Scene.ask(x, 0, 0);
        Check.same("risk", 19998, x.led(2, 9));
        Check.same("years", 9999, x.led(2, 10));
    }

    private static void ledBooklet() {
        PassportOffice x = Scene.quick(2, "");
        Scene.ask(x, 0, 0);
        Check.same("none", -1, x.led(0, 11));
        x.days(1);
        Check.same("number 0", 0, x.led(0, 11));
        x.lose(0);
        Check.same("a lost one's", 0, x.led(0, 11));
        x.again(0);
        Scene.ask(x, 1, 0);
        Check.same("until the next one is printed", 0, x.led(0, 11));
        x.days(1);
        Check.same("the latest", 1, x.led(0, 11));
        Check.same("of the other asking", 2, x.led(1, 11));
        x.days(9);
        Check.same("got", 1, x.led(0, 11));
    }

    private static void ledRead() {
        PassportOffice x = back();
        Check.same("on day 1", 1, x.led(0, 12));
        x.days(3);
        x.give(0, 1);
        Check.same("not by giving", 1, x.led(0, 12));
        x.give(0, 255);
        Check.same("nor by waiting", 1, x.led(0, 12));
        x.days(1);
        Check.same("the last time", 5, x.led(0, 12));
        x.days(3);
        Check.same("once more not", 5, x.led(0, 12));
        PassportOffice y = Scene.people(1);
        Scene.ask(y, 0, 0);
        Check.same("none", -1, y.led(0, 12));
        y.hands(0, 0);
        y.days(1);
        Check.same("none yet", -1, y.led(0, 12));
    }

    private static void ledPost() {
        PassportOffice x = Scene.quick(1, "");
        Scene.ask(x, 0, 0);
        Check.same("no day", -1, x.led(0, 13));
        Check.same("no day", -1, x.led(0, 14));
        x.days(1);
        Check.same("not got", -1, x.led(0, 13));
        Check.same("two days behind", 3, x.led(0, 14));
        x.lose(0);
        x.again(0);
        Check.same("to be printed again", -1, x.led(0, 14));
        Check.same("not got", -1, x.led(0, 13));
        x.broken(2, 5);
        x.days(4);
        Check.same("until it is printed", -1, x.led(0, 14));
        x.days(1);
        Check.same("by the next post", 8, x.led(0, 14));
        x.days(1);
        Check.same("not got the day ahead", -1, x.led(0, 13));
        x.days(1);
        Check.same("got", 8, x.led(0, 13));
        Check.same("came", 8, x.led(0, 14));
        x.days(5);
        Check.same("it stays", 8, x.led(0, 13));
        Check.same("it stays", 8, x.led(0, 14));
    }

    private static void ledBacks() {
        PassportOffice x = back();
        Check.same("once", 1, x.led(0, 15));
        x.give(0, 3);
        x.days(2);
        Check.same("giving too little is not twice", 1, x.led(0, 15));
        x.give(0, 128);
        x.days(1);
        Check.same("with all it is not back", 1, x.led(0, 15));
        PassportOffice y = Scene.people(1);
        Scene.ask(y, 0, 0);
        Check.same("never", 0, y.led(0, 15));
        y.days(1);
        Check.same("nor as it is read", 0, y.led(0, 15));
    }

    private static void ledAnotherWhat() {
        PassportOffice x = Scene.people(1);
        Scene.ask(x, 0, 0);
        Check.noSuch("-1", () -> x.led(0, -1));
        Check.same("0", 0, x.led(0, 0));
        Check.same("15", 0, x.led(0, 15));
        Check.noSuch("16", () -> x.led(0, 16));
        Check.noSuch("the least number", () -> x.led(0, Integer.MIN_VALUE));
        Check.noSuch("the greatest number", () -> x.led(0, Integer.MAX_VALUE));
        Check.index("asking 1", () -> x.led(1, 0));
        Check.index("asking -1", () -> x.led(-1, 0));
        Check.index("the asking goes ahead", () -> x.led(1, 16));
        PassportOffice y = Scene.quick(1, "");
        Scene.ask(y, 0, 0);
        y.days(1);
        Check.noSuch("of a booklet", () -> y.booklet(0, 4));
        Check.noSuch("of a booklet", () -> y.booklet(0, -1));
    }
}
