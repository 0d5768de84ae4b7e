/** Promises 13, 14 and 23 to 26: askings, what lacks, refusing, losing, printing again, what is led. */
final class AskingsTest {
    public static void main(String[] args) {
        promise13Ask();
        promise13Exceptions();
        promise13AsToldThen();
        promise14Give();
        promise23Refuse();
        promise24Lose();
        promise25Again();
        promise26Led();
        promise26FeeBack();
        Check.close();
    }

    private static PassportOffice start() {
        PassportOffice x = new PassportOffice();
        Check.apart(x, 0);
        Check.apart(x, 1);
        x.person(-9000, true, 0, 0, 90, 0, 0);
        x.blanks(100);
        return x;
    }

    private static void states(String what, PassportOffice x, int... due) {
        for (int i = 0; i < due.length; i++) Check.same(what + ": state of " + i, due[i], x.led(i, 0));
    }

    private static void promise13Ask() {
        PassportOffice x = start();
        Check.law(x, 0, "fee 30;fee 12 if urgent");
        Check.same("first", 0, x.ask(0, 0, 0, 0, false));
        Check.same("second", 1, x.ask(1, 3, 1000, 255, true));
        Check.same("fees as they come", 72, x.count(9));
        Check.same("two", 2, x.count(3));
        states("they wait to be read", x, 0, 0);
        for (int i = 2; i < 120; i++) Check.same("asking", i, x.ask(0, 0, 9, 0, false));
        Check.full("a 121st", () -> x.ask(0, 0, 9, 0, false));
        Check.argument("wrong goes ahead", () -> x.ask(0, 4, 9, 0, false));
        Check.same("no fee of it", 72 + 118 * 30, x.count(9));
        Check.same("120", 120, x.count(3));
    }

    private static void promise13Exceptions() {
        PassportOffice x = start();
        x.days(4);
        Check.index("no such person", () -> x.ask(3, 0, 9, 0, false));
        Check.index("below 0", () -> x.ask(-1, 0, 9, 0, false));
        Check.index("person goes ahead", () -> x.ask(3, 4, 3, 256, false));
        Check.argument("kind 4", () -> x.ask(0, 4, 9, 0, false));
        Check.argument("kind -1", () -> x.ask(0, -1, 9, 0, false));
        Check.argument("wanted yesterday", () -> x.ask(0, 0, 3, 0, false));
        Check.argument("wanted behind the last day", () -> x.ask(0, 0, 1001, 0, false));
        Check.argument("items 256", () -> x.ask(0, 0, 9, 256, false));
        Check.argument("items -1", () -> x.ask(0, 0, 9, -1, false));
        Check.same("none came", 0, x.count(3));
        Check.same("all edges", 0, x.ask(2, 3, 4, 255, true));
    }

    private static void promise13AsToldThen() {
        PassportOffice x = start();
        Check.law(x, 0, "fee 5;years 2;risk 1;need deed;need photo;back 0");
        x.ask(0, 0, 1, 1, true);
        Check.law(x, 0, "fee 7;years 3;risk 2;need both");
        Check.same("fee as told then", 5, x.led(0, 7));
        Check.same("years as told then", 2, x.led(0, 10));
        Check.same("risk as told then", 1, x.led(0, 9));
        Check.same("lacks as told then", 2, x.led(0, 6));
        x.days(1);
        states("back", x, 1);
        Check.same("with that it may go on", 0, x.give(0, 2));
        x.days(3);
        Check.same("its end", 2 + 730, x.booklet(0, 2));
        Check.same("back as told then", 1, x.led(0, 8));
    }

    private static void promise14Give() {
        PassportOffice x = start();
        Check.law(x, 0, "need deed;need photo;need both");
        x.ask(0, 0, 90, 0, false);
        Check.state("not read yet", () -> x.give(0, 1));
        Check.argument("items go ahead of the state", () -> x.give(0, 256));
        x.days(1);
        states("back", x, 1);
        Check.index("no such asking", () -> x.give(1, 1));
        Check.index("below 0", () -> x.give(-1, 1));
        Check.index("asking goes ahead of items", () -> x.give(1, 256));
        Check.argument("items 256", () -> x.give(0, 256));
        Check.argument("items -1", () -> x.give(0, -1));
        Check.same("nothing", 11, x.give(0, 0));
        Check.same("what is not needed", 11, x.give(0, 4 + 16));
        Check.same("the photo", 9, x.give(0, 2));
        Check.same("the photo again", 9, x.give(0, 2));
        states("back still", x, 1);
        Check.same("all given so far", 4 + 16 + 2, x.led(0, 5));
        Check.same("the others", 0, x.give(0, 9));
        states("to be read", x, 0);
        Check.state("it is back no more", () -> x.give(0, 0));
        x.hands(0, 0);
        x.lend(0, 1, 2, 2, 0);
        x.days(1);
        Check.same("read", 2, x.led(0, 12));
        Check.same("1 unit of 8 at read, 3 of 8 at check, none at see, 1 at print", 7 + 5 + 8 + 7, x.count(14));
        Check.same("back once", 1, x.led(0, 15));
    }

    private static void promise23Refuse() {
        PassportOffice x = start();
        Check.law(x, 0, "need deed;see if second;risk 9999 if renew;back 0;fee 5");
        x.person(-9000, false, 0, 1, 0, 0, 0);
        Check.index("no such asking", () -> x.refuse(0));
        x.hands(0, 30);
        x.hands(1, 30);
        x.hands(2, 0);
        x.blanks(100);
        x.ask(1, 0, 0, 0, false);
        x.ask(0, 0, 0, 1, false);
        x.ask(1, 3, 0, 1, false);
        x.ask(1, 0, 0, 1, false);
        x.days(1);
        x.broken(2, 5);
        x.ask(1, 0, 1, 1, false);
        x.ask(1, 1, 1, 1, false);
        x.days(1);
        x.hands(0, 0);
        x.ask(1, 0, 2, 1, false);
        states("one of each", x, 1, 3, 4, 6, 5, 2, 0);
        Check.state("in the post", () -> x.refuse(3));
        Check.index("no such asking", () -> x.refuse(7));
        Check.index("below 0", () -> x.refuse(-1));
        x.lose(3);
        Check.state("lost", () -> x.refuse(3));
        for (int i : new int[] {0, 1, 2, 4, 5, 6}) x.refuse(i);
        states("refused", x, 9, 9, 9, 8, 9, 9, 9);
        Check.state("refused", () -> x.refuse(0));
        Check.same("six", 6, x.count(16));
        Check.same("no fee goes back", 0, x.count(10));
        PassportOffice y = start();
        y.rules(20, 30, 10, 0, 0);
        y.ask(0, 0, 0, 0, false);
        y.days(1);
        states("got", y, 7);
        Check.state("got", () -> y.refuse(0));
    }

    private static void promise24Lose() {
        PassportOffice x = start();
        x.ask(0, 0, 9, 0, false);
        Check.state("not in the post", () -> x.lose(0));
        x.days(1);
        states("in the post", x, 6);
        Check.index("no such asking", () -> x.lose(1));
        Check.index("below 0", () -> x.lose(-1));
        Check.same("valid", 1, x.valid(0, 1));
        x.days(1);
        x.lose(0);
        states("lost", x, 8);
        Check.same("it ends that day", 2, x.booklet(0, 2));
        Check.same("no more valid", 0, x.valid(0, 2));
        Check.same("it was", 1, x.valid(0, 1));
        Check.same("the day it would come", 3, x.led(0, 14));
        Check.same("lost", 1, x.count(17));
        Check.state("lost already", () -> x.lose(0));
        x.days(5);
        states("it stays lost", x, 8);
        x.ask(0, 0, 9, 0, false);
        x.ask(0, 0, 9, 0, false);
        x.days(1);
        Check.same("ended by the next one", 8, x.booklet(1, 2));
        x.days(1);
        x.lose(1);
        Check.same("one that has ended keeps its end", 8, x.booklet(1, 2));
        x.days(3);
        Check.state("got", () -> x.lose(2));
    }

    private static void promise25Again() {
        PassportOffice x = start();
        x.ask(0, 0, 9, 0, false);
        Check.index("no such asking", () -> x.again(1));
        Check.index("below 0", () -> x.again(-1));
        Check.state("not lost", () -> x.again(0));
        x.days(1);
        Check.state("in the post", () -> x.again(0));
        x.lose(0);
        x.again(0);
        states("to be printed", x, 5);
        Check.same("no day of the post", -1, x.led(0, 14));
        Check.same("the lost one still", 0, x.led(0, 11));
        Check.same("lost no more", 0, x.count(17));
        Check.same("open", 1, x.count(4));
        Check.state("lost no more", () -> x.again(0));
        x.days(1);
        Check.same("a new one", 1, x.led(0, 11));
        Check.same("by post", 4, x.led(0, 14));
        Check.same("read once alone", 1, x.led(0, 12));
        Check.same("98 blanks", 98, x.count(8));
        x.lose(0);
        x.again(0);
        x.refuse(0);
        states("refused", x, 9);
        Check.state("refused", () -> x.again(0));
    }

    private static void promise26Led() {
        PassportOffice x = start();
        Check.law(x, 0, "fee 30;need photo;need deed;risk 3;years 7;back 2 if urgent");
        x.days(2);
        x.ask(2, 1, 9, 4, true);
        led("as it comes", x, 0, 2, 1, 2, 9, 4, 3, 30, 0, 3, 7, -1, -1, -1, -1, 0);
        x.days(1);
        led("back", x, 1, 2, 1, 2, 9, 4, 3, 30, 0, 3, 7, -1, 3, -1, -1, 1);
        x.give(0, 1);
        led("given", x, 1, 2, 1, 2, 9, 5, 2, 30, 0, 3, 7, -1, 3, -1, -1, 1);
        x.give(0, 2);
        x.hands(1, 0);
        x.days(1);
        led("read", x, 2, 2, 1, 2, 9, 7, 0, 30, 0, 3, 7, -1, 4, -1, -1, 1);
        x.hands(1, 1);
        x.days(1);
        led("in the post", x, 6, 2, 1, 2, 9, 7, 0, 30, 0, 3, 7, 0, 4, -1, 14, 1);
        x.days(9);
        led("got", x, 7, 2, 1, 2, 9, 7, 0, 30, 1, 3, 7, 0, 4, 14, 14, 1);
        x.ask(0, 0, 20, 3, false);
        x.rules(20, 30, 10, 0, 9);
        x.days(1);
        Check.same("got that day", 15, x.led(1, 13));
        Check.same("came that day", 15, x.led(1, 14));
        Check.index("no such asking", () -> x.led(2, 0));
        Check.index("below 0", () -> x.led(-1, 0));
        Check.index("asking goes ahead", () -> x.led(2, 16));
        Check.noSuch("what 16", () -> x.led(0, 16));
        Check.noSuch("what -1", () -> x.led(0, -1));
        PassportOffice y = start();
        Check.law(y, 0, "need deed");
        y.ask(0, 0, 9, 0, false);
        y.days(1);
        y.refuse(0);
        Check.same("lacks of a refused one", 1, y.led(0, 6));
    }

    private static void led(String what, PassportOffice x, int... due) {
        for (int i = 0; i < 16; i++) Check.same(what + ": led " + i, due[i], x.led(0, i));
    }

    private static void promise26FeeBack() {
        for (int wanted = 0; wanted < 5; wanted++) {
            PassportOffice x = start();
            Check.law(x, 0, "fee 8;back 2");
            x.ask(0, 0, wanted, 0, false);
            x.days(2);
            Check.same("not before it is got", 0, x.count(10));
            x.days(1);
            states("got on day 3", x, 7);
            Check.same("wanted " + wanted, wanted < 1 ? 1 : 0, x.led(0, 8));
            Check.same("wanted " + wanted, wanted < 1 ? 8 : 0, x.count(10));
            Check.same("taken all the same", 8, x.count(9));
        }
        PassportOffice none = start();
        Check.law(none, 0, "fee 8;back 0 if urgent");
        none.ask(0, 0, 0, 0, false);
        none.ask(1, 0, 0, 0, true);
        none.rules(20, 30, 10, 0, 9);
        none.days(1);
        Check.same("none told", 0, none.led(0, 8));
        Check.same("back 0, a day late, without post", 1, none.led(1, 8));
        Check.same("given back", 8, none.count(10));
        PassportOffice twice = start();
        Check.law(twice, 0, "fee 8;back 0");
        twice.ask(0, 0, 1, 0, false);
        twice.days(1);
        twice.lose(0);
        twice.again(0);
        twice.days(4);
        Check.same("back once", 8, twice.count(10));
        twice.ask(1, 0, 5, 0, false);
        twice.days(3);
        Check.same("and of another one", 16, twice.count(10));
    }
}
