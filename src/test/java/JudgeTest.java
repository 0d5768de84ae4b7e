/** Promise 12, and 4 as to what laws say: facts, conditions, sums, the law of a day. */
final class JudgeTest {
    public static void main(String[] args) {
        promise12Whats();
        promise12Exceptions();
        promise12Clauses();
        promise12Facts();
        promise12Conditions();
        promise12LawOfTheDay();
        promise12Valid();
        Check.close();
    }

    private static PassportOffice withLaw(String text) {
        PassportOffice x = new PassportOffice();
        x.person(-7300, false, 0, 0, 0, 0, 0);
        x.person(-40000, true, 50, 0, 0, 0, 0);
        x.person(0, false, 99, 0, 0, 0, 0);
        Check.law(x, 0, text);
        Check.same("fault of " + text, -1, x.fault());
        return x;
    }

    private static void promise12Whats() {
        PassportOffice x = withLaw("need deed;need change;fee 7;years 3;risk 4;see;back 5");
        int[] due = {129, 7, 3, 4, 1, 5};
        for (int what = 0; what < 6; what++) Check.same("what " + what, due[what], x.judge(0, 0, 0, false, what));
        PassportOffice none = withLaw("");
        int[] dueOfNone = {0, 0, 10, 0, 0, -1};
        for (int what = 0; what < 6; what++) Check.same("none: what " + what, dueOfNone[what], none.judge(0, 0, 0, false, what));
        PassportOffice ahead = new PassportOffice();
        ahead.person(0, false, 0, 0, 0, 0, 0);
        for (int what = 0; what < 6; what++) Check.same("no law: what " + what, dueOfNone[what], ahead.judge(0, 0, 0, false, what));
        Check.same("nothing is asked", 0, x.count(3));
        Check.same("no fee is taken", 0, x.count(9));
    }

    private static void promise12Exceptions() {
        PassportOffice x = withLaw("see");
        x.days(5);
        Check.index("no such person", () -> x.judge(3, 0, 5, false, 0));
        Check.index("below 0", () -> x.judge(-1, 0, 5, false, 0));
        Check.index("person goes ahead of all", () -> x.judge(3, 9, 4, false, 9));
        Check.argument("kind 4", () -> x.judge(0, 4, 5, false, 0));
        Check.argument("kind -1", () -> x.judge(0, -1, 5, false, 0));
        Check.argument("wanted ahead of today", () -> x.judge(0, 0, 4, false, 0));
        Check.argument("wanted behind the last day", () -> x.judge(0, 0, 1001, false, 0));
        Check.argument("wanted goes ahead of what", () -> x.judge(0, 0, 4, false, 6));
        Check.noSuch("what 6", () -> x.judge(0, 0, 5, false, 6));
        Check.noSuch("what -1", () -> x.judge(0, 0, 5, false, -1));
        Check.same("today", 1, x.judge(0, 3, 5, false, 4));
        Check.same("the last day", 1, x.judge(0, 3, 1000, false, 4));
    }

    private static void promise12Clauses() {
        String items = "deed photo consent both oldbook report ticket change";
        int bit = 1;
        for (String item : items.split(" ")) {
            Check.same(item, bit, withLaw("need " + item).judge(0, 0, 0, false, 0));
            bit *= 2;
        }
        PassportOffice x = withLaw("need deed;need deed;fee 10;fee 5;fee 100 if urgent;back 8;back 3;back 5;back 1 if urgent;"
            + "years 4;years 9;years 6;years 20 if urgent");
        Check.same("least back", 3, x.judge(0, 0, 0, false, 5));
        Check.same("least back", 1, x.judge(0, 0, 0, true, 5));
        Check.same("urgent fee", 115, x.judge(0, 0, 0, true, 1));
        Check.same("needs once", 1, x.judge(0, 0, 0, false, 0));
        Check.same("sum of fees", 15, x.judge(0, 0, 0, false, 1));
        Check.same("greatest years", 9, x.judge(0, 0, 0, false, 2));
        PassportOffice y = withLaw("risk 1;risk 2;risk 9 if urgent;see if urgent;back 0;back 7;back 9999;years 0;fee 9999;fee 9999");
        Check.same("sum of risks", 3, y.judge(0, 0, 0, false, 3));
        Check.same("sum of risks", 12, y.judge(0, 0, 0, true, 3));
        Check.same("see", 0, y.judge(0, 0, 0, false, 4));
        Check.same("see", 1, y.judge(0, 0, 0, true, 4));
        Check.same("back 0", 0, y.judge(0, 0, 0, true, 5));
        Check.same("years 0", 0, y.judge(0, 0, 0, true, 2));
        Check.same("great fees", 19998, y.judge(0, 0, 0, true, 1));
        Check.same("more years than the usual ones", 9999, withLaw("years 5;years 9999").judge(0, 0, 0, false, 2));
        Check.same("fewer ones", 5, withLaw("years 5;years 4").judge(0, 0, 0, false, 2));
    }

    private static int see(String cond, int person, int kind, int wanted, boolean urgent) {
        return withLaw("see if " + cond).judge(person, kind, wanted, urgent, 4);
    }

    private static void promise12Facts() {
        Check.same("age 20", 1, see("age<21 and age > 19", 0, 0, 0, false));
        Check.same("age is not below itself", 0, see("age<20", 0, 0, 0, false));
        Check.same("nor above", 0, see("age>20", 0, 0, 0, false));
        Check.same("rounded down", 1, see("age>108 and age<110", 1, 0, 0, false));
        Check.same("age alone", 1, see("age", 0, 0, 0, false));
        Check.same("age 0 alone", 0, see("age", 2, 0, 0, false));
        PassportOffice x = new PassportOffice();
        x.person(-364, false, 0, 0, 0, 0, 0);
        Check.law(x, 0, "risk 1 if age;risk 2 if wanted;risk 4 if wanted>2;risk 8 if wanted<4");
        Check.same("on the day ahead of a birthday", 2 + 4 + 8, x.judge(0, 0, 3, false, 3));
        x.days(1);
        Check.same("on a birthday, two days ahead", 1 + 2 + 8, x.judge(0, 0, 3, false, 3));
        Check.same("wanted today", 1 + 8, x.judge(0, 0, 1, false, 3));
        Check.same("wanted at last", 1 + 2 + 4, x.judge(0, 0, 1000, false, 3));
        Check.same("abroad", 1, see("abroad", 1, 0, 0, false));
        Check.same("not abroad", 0, see("abroad", 0, 0, 0, false));
        Check.same("abroad as a number", 1, see("abroad>0 and abroad<2", 1, 0, 0, false));
        String[] kinds = {"first", "renew", "lost", "second"};
        for (int kind = 0; kind < 4; kind++) {
            for (int other = 0; other < 4; other++) {
                Check.same(kinds[kind] + " of " + other, kind == other ? 1 : 0, see(kinds[kind], 0, other, 0, false));
            }
        }
        Check.same("urgent", 1, see("urgent", 0, 0, 0, true));
        Check.same("not urgent", 0, see("urgent", 0, 0, 0, false));
        Check.same("urgent as a number", 1, see("urgent>0 and urgent<2", 0, 0, 0, true));
        for (int kind = 0; kind < 4; kind++) {
            Check.same(kinds[kind] + " as a number", 1, see(kinds[kind] + ">0 and " + kinds[kind] + "<2", 0, kind, 0, false));
            Check.same("not " + kinds[kind] + " as a number", 0, see(kinds[kind] + ">0", 0, (kind + 1) % 4, 0, false));
        }
    }

    private static void promise12Conditions() {
        // facts that vary: u urgent, f first, a abroad
        String[] conds = {
            "urgent or first and abroad", "urgent and first or abroad", "(urgent or first) and abroad", "not urgent or first",
            "not (urgent or first)", "not not urgent", "not urgent and not first", "urgent and (first or not abroad)",
            "not urgent and first or abroad", "urgent or first or abroad", "urgent and first and abroad",
            "abroad and not (first and not urgent) or first<1", "not urgent<1", "not first>0 or abroad",
        };
        for (int bits = 0; bits < 8; bits++) {
            boolean u = (bits & 1) != 0;
            boolean f = (bits & 2) != 0;
            boolean a = (bits & 4) != 0;
            boolean[] due = {
                u || f && a, u && f || a, (u || f) && a, !u || f,
                !(u || f), u, !u && !f, u && (f || !a),
                !u && f || a, u || f || a, u && f && a,
                a && !(f && !u) || !f, u, !f || a,
            };
            for (int i = 0; i < conds.length; i++) {
                Check.same(conds[i] + " with " + bits, due[i] ? 1 : 0, see(conds[i], a ? 1 : 0, f ? 0 : 1, 0, u));
            }
        }
    }

    private static void promise12LawOfTheDay() {
        PassportOffice x = new PassportOffice();
        x.person(0, false, 0, 0, 0, 0, 0);
        Check.law(x, 5, "fee 5");
        Check.law(x, 3, "fee 3");
        Check.law(x, 5, "fee 6;see");
        int[] fees = {0, 0, 0, 3, 3, 6, 6};
        int[] clauses = {0, 0, 0, 1, 1, 2, 2};
        for (int day = 0; day < fees.length; day++) {
            Check.same("fee on day " + day, fees[day], x.judge(0, 0, 20, false, 1));
            Check.same("clauses on day " + day, clauses[day], x.count(15));
            x.days(1);
        }
        Check.law(x, 7, "");
        Check.same("a law without clauses", 0, x.judge(0, 0, 20, false, 1));
    }

    private static void promise12Valid() {
        PassportOffice x = withLaw("years 1;risk 1 if valid;risk 2 if valid>1;risk 4 if valid<2");
        x.blanks(9);
        Check.same("none", 4, x.judge(0, 0, 20, false, 3));
        x.ask(0, 0, 20, 0, false);
        x.days(1);
        Check.same("one, in the post", 1 + 4, x.judge(0, 0, 20, false, 3));
        Check.same("of another person", 4, x.judge(2, 0, 20, false, 3));
        x.ask(0, 3, 20, 0, false);
        x.days(1);
        Check.same("two", 1 + 2, x.judge(0, 0, 20, false, 3));
        for (int i = 0; i < 6; i++) x.days(60);
        x.days(3);
        Check.same("day 365", 365, x.count(0));
        Check.same("both", 1 + 2, x.judge(0, 0, 400, false, 3));
        x.days(1);
        Check.same("the first one has ended", 1 + 4, x.judge(0, 0, 400, false, 3));
        x.days(1);
        Check.same("both have ended", 4, x.judge(0, 0, 400, false, 3));
    }
}
