/** The boundary cases of facts and of what laws tell: promise 12. */
final class EdgesOfJudging {
    private EdgesOfJudging() {
    }

    static void all() {
        Edge.of("FACTS of an asking as it comes: age: days since BORN by 365, rounded down;", EdgesOfJudging::age);
        Edge.of("wanted: days to the day for which it is wanted;", EdgesOfJudging::wanted);
        Edge.of("valid: how many booklets of that person are VALID that day;", EdgesOfJudging::valid);
        Edge.of("the others are 1 if it is so (ABROAD; its kind; urgent), else 0.", EdgesOfJudging::others);
        Edge.of("A FACT alone holds if it is not 0.", EdgesOfJudging::factAlone);
        Edge.of("BY A LAW: NEEDS: the ITEMS of all need CLAUSES that hold;", EdgesOfJudging::needs);
        Edge.of("FEE: the sum of all fee;", EdgesOfJudging::fee);
        Edge.of("YEARS: the greatest of all years, 10 without one;", EdgesOfJudging::years);
        Edge.of("RISK: the sum of all risk;", EdgesOfJudging::risk);
        Edge.of("SEE: whether some see holds;", EdgesOfJudging::see);
        Edge.of("BACK: the least of all back, none without one.", EdgesOfJudging::back);
        Edge.of("the LAW of a day is that of the latest such day up to it, of several the one told last; "
            + "ahead of any it has no CLAUSE.", EdgesOfJudging::lawOfADay);
        Edge.of("An asking goes by the LAW of the day on which it came, as told then, whatever comes later.",
            EdgesOfJudging::asToldThen);
        Edge.of("What an asking would have, if it came TODAY, but for ITEMS: what 0 NEEDS, 1 FEE, 2 YEARS, 3 RISK, "
            + "4 1 with SEE, else 0, 5 BACK (NONE).", EdgesOfJudging::whats);
        Edge.of("IllegalArgumentException: kind or WANTED are none; NoSuchElementException: another what.",
            EdgesOfJudging::exceptions);
    }

    /** One born on a day, at home, and a law. */
    private static PassportOffice born(int day, String law) {
        PassportOffice x = new PassportOffice();
        x.person(day, false, 0, 0, 0, 0, 0);
        Check.law(x, 0, law);
        return x;
    }

    private static int feeOf(PassportOffice x) {
        return x.judge(0, 0, 1000, false, 1);
    }

    /** A law whose fee tells a fact, if it is one of 0 to 3, or the one told. */
    private static String feeTells(String fact, int other) {
        return "fee 100 if not " + fact + ";fee 101 if " + fact + "<2 and " + fact + ">0;fee 102 if " + fact + "<3 and " + fact
            + ">1;fee 103 if " + fact + "<4 and " + fact + ">2;fee " + (100 + other) + " if " + fact + ">" + (other - 1)
            + " and " + fact + "<" + (other + 1);
    }

    private static void age() {
        int[] days = {0, -1, -364, -365, -729, -730, -1094, -1095};
        int[] ages = {0, 0, 0, 1, 1, 2, 2, 3};
        for (int i = 0; i < days.length; i++) {
            Check.same("born on day " + days[i], 100 + ages[i], feeOf(born(days[i], feeTells("age", 50))));
        }
        Check.same("the oldest: 40000 days", 209, feeOf(born(-40000, feeTells("age", 109))));
        PassportOffice x = born(-40000, feeTells("age", 112));
        Scene.goTo(x, 1000);
        Check.same("the oldest at last: 41000 days", 212, feeOf(x));
        PassportOffice y = born(0, feeTells("age", 50));
        Scene.goTo(y, 364);
        Check.same("364 days", 100, feeOf(y));
        y.days(1);
        Check.same("365 days", 101, feeOf(y));
        Scene.goTo(y, 730);
        Check.same("730 days", 102, feeOf(y));
    }

    private static void wanted() {
        PassportOffice x = born(0, feeTells("wanted", 1000));
        int[] due = {100, 101, 102, 103};
        for (int day = 0; day < 4; day++) Check.same("wanted for day " + day, due[day], x.judge(0, 0, day, false, 1));
        Check.same("wanted for day 1000", 1100, x.judge(0, 0, 1000, false, 1));
        Check.same("wanted for day 999", 0, x.judge(0, 0, 999, false, 1));
        Scene.goTo(x, 997);
        for (int day = 0; day < 4; day++) Check.same("on day 997", due[day], x.judge(0, 0, 997 + day, false, 1));
    }

    private static void valid() {
        PassportOffice x = Scene.quick(2, feeTells("valid", 50) + ";years 1");
        Check.same("none at first", 100, feeOf(x));
        Scene.ask(x, 0, 3);
        Check.same("none by asking", 100, feeOf(x));
        x.days(1);
        Check.same("one on the day it is printed", 101, feeOf(x));
        Check.same("none of another person", 100, x.judge(1, 0, 1000, false, 1));
        Scene.ask(x, 0, 3);
        x.days(1);
        Check.same("two", 102, feeOf(x));
        Scene.ask(x, 0, 3);
        x.days(1);
        Check.same("three", 103, feeOf(x));
        Scene.goTo(x, 365);
        Check.same("on the last day of the first one", 103, feeOf(x));
        x.days(1);
        Check.same("on its end", 102, feeOf(x));
        x.days(2);
        Check.same("all have ended", 100, feeOf(x));
    }

    private static void others() {
        String law = "fee 1 if abroad;fee 2 if first;fee 4 if renew;fee 8 if lost;fee 16 if second;fee 32 if urgent";
        String numbers = "fee 1 if abroad>0 and abroad<2;fee 2 if first>0 and first<2;fee 4 if renew>0 and renew<2;"
            + "fee 8 if lost>0 and lost<2;fee 16 if second>0 and second<2;fee 32 if urgent>0 and urgent<2";
        String noughts = "fee 1 if abroad<1;fee 2 if first<1;fee 4 if renew<1;fee 8 if lost<1;fee 16 if second<1;fee 32 if urgent<1";
        for (int kind = 0; kind < 4; kind++) {
            for (int who = 0; who < 2; who++) {
                for (int urgent = 0; urgent < 2; urgent++) {
                    int due = who + (2 << kind) + 32 * urgent;
                    Check.same("alone", due, others(law, who, kind, urgent));
                    Check.same("as 1", due, others(numbers, who, kind, urgent));
                    Check.same("as 0", 63 - due, others(noughts, who, kind, urgent));
                }
            }
        }
    }

    private static int others(String law, int who, int kind, int urgent) {
        PassportOffice x = Scene.people(0);
        x.person(-9000, false, 0, 0, 0, 0, 0);
        x.person(-9000, true, 0, 0, 0, 0, 0);
        Check.law(x, 0, law);
        return x.judge(who, kind, 9, urgent == 1, 1);
    }

    private static void factAlone() {
        Check.same("age 0", 0, feeOf(born(-364, "fee 1 if age")));
        Check.same("age 1", 1, feeOf(born(-365, "fee 1 if age")));
        Check.same("age 109", 1, feeOf(born(-40000, "fee 1 if age")));
        PassportOffice x = born(0, "fee 1 if wanted");
        Check.same("wanted today", 0, x.judge(0, 0, 0, false, 1));
        Check.same("wanted tomorrow", 1, x.judge(0, 0, 1, false, 1));
        Check.same("wanted at last", 1, x.judge(0, 0, 1000, false, 1));
        // < and > leave the number itself out
        Check.same("age 1 < 1", 0, feeOf(born(-365, "fee 1 if age<1")));
        Check.same("age 1 > 1", 0, feeOf(born(-365, "fee 1 if age>1")));
        Check.same("age 1 < 2", 1, feeOf(born(-365, "fee 1 if age<2")));
        Check.same("age 1 > 0", 1, feeOf(born(-365, "fee 1 if age>0")));
        Check.same("age 0 < 0", 0, feeOf(born(0, "fee 1 if age<0")));
        Check.same("age 0 > 0", 0, feeOf(born(0, "fee 1 if age>0")));
        Check.same("age 109 < 9999", 1, feeOf(born(-40000, "fee 1 if age<9999")));
        Check.same("age 109 > 9999", 0, feeOf(born(-40000, "fee 1 if age>9999")));
    }

    private static int judged(String law, int what, boolean urgent) {
        return born(0, law).judge(0, 0, 1000, urgent, what);
    }

    private static void needs() {
        Check.same("none", 0, judged("", 0, false));
        Check.same("none that holds", 0, judged("need deed if urgent;need photo if age", 0, false));
        Check.same("one of two", 1, judged("need deed;need change if urgent", 0, false));
        Check.same("both", 129, judged("need deed;need change if urgent", 0, true));
        Check.same("one that is told twice", 1, judged("need deed;need deed", 0, false));
        Check.same("one that holds the second time", 1, judged("need deed if age;need deed", 0, false));
    }

    private static void fee() {
        Check.same("none", 0, judged("", 1, false));
        Check.same("none that holds", 0, judged("fee 5 if urgent", 1, false));
        Check.same("0", 0, judged("fee 0", 1, false));
        Check.same("the sum", 12, judged("fee 5;fee 7", 1, false));
        Check.same("twice the same", 10, judged("fee 5;fee 5", 1, false));
        Check.same("sixteen of the greatest", 16 * 9999, judged("fee 9999;".repeat(15) + "fee 9999", 1, false));
        Check.same("of those that hold", 5, judged("fee 5;fee 7 if urgent", 1, false));
    }

    private static void years() {
        Check.same("without one", 10, judged("", 2, false));
        Check.same("without one that holds", 10, judged("years 3 if urgent;years 20 if urgent", 2, false));
        Check.same("fewer than 10", 3, judged("years 3", 2, false));
        Check.same("more than 10", 11, judged("years 11", 2, false));
        Check.same("0", 0, judged("years 0", 2, false));
        Check.same("the greatest, told first", 4, judged("years 4;years 3", 2, false));
        Check.same("the greatest, told last", 4, judged("years 3;years 4", 2, false));
        Check.same("0 and 1", 1, judged("years 0;years 1", 2, false));
        Check.same("9999", 9999, judged("years 1;years 9999;years 5", 2, false));
        Check.same("of those that hold", 3, judged("years 3;years 20 if urgent", 2, false));
    }

    private static void risk() {
        Check.same("none", 0, judged("", 3, false));
        Check.same("none that holds", 0, judged("risk 9 if urgent", 3, false));
        Check.same("the sum", 7, judged("risk 3;risk 4", 3, false));
        Check.same("sixteen of the greatest", 16 * 9999, judged("risk 9999;".repeat(15) + "risk 9999", 3, false));
        Check.same("of those that hold", 3, judged("risk 3;risk 4 if urgent", 3, false));
    }

    private static void see() {
        Check.same("none", 0, judged("", 4, false));
        Check.same("none that holds", 0, judged("see if urgent;see if age", 4, false));
        Check.same("one", 1, judged("see", 4, false));
        Check.same("the first of two", 1, judged("see if urgent;see if age", 4, true));
        Check.same("the last of two", 1, judged("see if age;see if urgent", 4, true));
        Check.same("two are 1", 1, judged("see;see", 4, false));
    }

    private static void back() {
        Check.same("without one", -1, judged("", 5, false));
        Check.same("without one that holds", -1, judged("back 3 if urgent", 5, false));
        Check.same("0", 0, judged("back 0", 5, false));
        Check.same("9999", 9999, judged("back 9999", 5, false));
        Check.same("the least, told first", 3, judged("back 3;back 4", 5, false));
        Check.same("the least, told last", 3, judged("back 4;back 3", 5, false));
        Check.same("0 and 1", 0, judged("back 1;back 0;back 1", 5, false));
        Check.same("of those that hold", 4, judged("back 4;back 3 if urgent", 5, false));
    }

    private static void lawOfADay() {
        PassportOffice x = Scene.people(1);
        Check.law(x, 3, "fee 3");
        Check.same("ahead of any", 0, feeOf(x));
        Check.same("no clause", 0, x.count(15));
        Check.same("ten years", 10, x.judge(0, 0, 1000, false, 2));
        x.days(2);
        Check.same("the day ahead", 0, feeOf(x));
        x.days(1);
        Check.same("the day itself", 3, feeOf(x));
        Check.law(x, 5, "fee 5");
        Check.law(x, 4, "fee 4;see");
        x.days(1);
        Check.same("day 4: not the one told last, the latest day up to it", 4, feeOf(x));
        Check.same("its clauses", 2, x.count(15));
        x.days(1);
        Check.same("day 5: the latest day, told earlier", 5, feeOf(x));
        Check.law(x, 5, "fee 6");
        Check.same("of two for one day the last", 6, feeOf(x));
        Check.law(x, 5, "");
        Check.same("a last one without clauses", 0, feeOf(x));
        Check.law(x, 1000, "fee 1000");
        Scene.goTo(x, 999);
        Check.same("the day ahead of the last", 0, feeOf(x));
        x.days(1);
        Check.same("the last day", 1000, feeOf(x));
    }

    private static void asToldThen() {
        PassportOffice x = Scene.quick(1, "need deed;fee 5;years 1;risk 2;back 3");
        x.hands(0, 0);
        Scene.ask(x, 0, 0);
        Check.law(x, 0, "need photo;fee 9;years 9;risk 9;see");
        Scene.ask(x, 0, 0);
        x.days(1);
        Check.law(x, 1, "");
        int[][] due = {{1, 5, 2, 1}, {2, 9, 9, 9}};
        for (int i = 0; i < 2; i++) {
            Check.same("needs", due[i][0], x.led(i, 6));
            Check.same("fee", due[i][1], x.led(i, 7));
            Check.same("risk", due[i][2], x.led(i, 9));
            Check.same("years", due[i][3], x.led(i, 10));
        }
        PassportOffice y = Scene.people(1);
        Check.law(y, 1, "fee 7 if wanted<1000");
        Scene.ask(y, 0, 0);
        y.days(1);
        Check.same("not by the law of a later day", 0, y.led(0, 7));
        Scene.ask(y, 0, 0);
        Check.same("the facts as it comes: wanted 999", 7, y.led(1, 7));
        PassportOffice z = born(-364, "fee 7 if age");
        Scene.ask(z, 0, 0);
        z.days(1);
        Check.same("the facts as it came: age 0", 0, z.led(0, 7));
    }

    private static void whats() {
        PassportOffice x = born(0, "need deed;need change;fee 7;years 3;risk 4;see;back 5");
        int[] due = {129, 7, 3, 4, 1, 5};
        for (int what = 0; what < 6; what++) Check.same("what " + what, due[what], x.judge(0, 0, 0, false, what));
        PassportOffice none = born(0, "");
        int[] dueOfNone = {0, 0, 10, 0, 0, -1};
        for (int what = 0; what < 6; what++) Check.same("none: what " + what, dueOfNone[what], none.judge(0, 0, 0, false, what));
        Check.same("nothing came", 0, x.count(3));
        Check.same("no fee was taken", 0, x.count(9));
        PassportOffice y = born(0, "");
        Check.law(y, 2, "fee 2");
        y.days(1);
        Check.same("the day ahead", 0, feeOf(y));
        y.days(1);
        Check.same("today", 2, feeOf(y));
    }

    private static void exceptions() {
        PassportOffice x = born(0, "see");
        x.days(5);
        Check.argument("kind -1", () -> x.judge(0, -1, 5, false, 4));
        Check.same("kind 0", 1, x.judge(0, 0, 5, false, 4));
        Check.same("kind 3", 1, x.judge(0, 3, 5, false, 4));
        Check.argument("kind 4", () -> x.judge(0, 4, 5, false, 4));
        Check.argument("wanted yesterday", () -> x.judge(0, 0, 4, false, 4));
        Check.same("wanted today", 1, x.judge(0, 0, 5, false, 4));
        Check.same("wanted at last", 1, x.judge(0, 0, 1000, false, 4));
        Check.argument("wanted behind the last day", () -> x.judge(0, 0, 1001, false, 4));
        Check.argument("the least number", () -> x.judge(0, 0, Integer.MIN_VALUE, false, 4));
        Check.argument("the greatest number", () -> x.judge(0, 0, Integer.MAX_VALUE, false, 4));
        Check.noSuch("what -1", () -> x.judge(0, 0, 5, false, -1));
        Check.noSuch("what 6", () -> x.judge(0, 0, 5, false, 6));
        Check.noSuch("the least what", () -> x.judge(0, 0, 5, false, Integer.MIN_VALUE));
        Check.noSuch("the greatest what", () -> x.judge(0, 0, 5, false, Integer.MAX_VALUE));
        Check.index("person 1", () -> x.judge(1, 0, 5, false, 4));
        Check.index("person -1", () -> x.judge(-1, 0, 5, false, 4));
        Check.index("person ahead of kind, wanted and what", () -> x.judge(1, 4, 4, false, 6));
        Check.argument("kind ahead of what", () -> x.judge(0, 4, 5, false, 6));
        Check.argument("wanted ahead of what", () -> x.judge(0, 0, 4, false, 6));
        PassportOffice y = new PassportOffice();
        y.person(0, false, 0, 0, 0, 0, 0);
        Check.noSuch("what 6 without a law", () -> y.judge(0, 0, 0, false, 6));
    }
}
