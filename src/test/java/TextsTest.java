/** Promises 1 to 5 and 7 to 9: the new object, the tape, laws as texts, names. */
final class TextsTest {
    public static void main(String[] args) {
        promise1NewObject();
        promise2Feed();
        promise3End();
        promise4Law();
        promise4LawWrong();
        promise4LawTape();
        promise5Fault();
        promise7Name();
        promise8Sign();
        promise9Figure();
        Check.close();
    }

    private static void promise1NewObject() {
        PassportOffice x = new PassportOffice();
        for (int what = 0; what <= 17; what++) Check.same("new: count " + what, 0, x.count(what));
        Check.same("new: fault", -1, x.fault());
        for (int desk = 0; desk < 4; desk++) {
            Check.same("new: queue", 0, x.queue(desk));
            Check.same("new: units", 8, x.units(desk, 0));
        }
        Check.index("new: no person", () -> x.valid(0, 0));
        Check.index("new: no asking", () -> x.led(0, 0));
        Check.index("new: no booklet", () -> x.booklet(0, 0));
        Check.same("new: tape", 20, x.feed(0, 0, 0, 0, 0));
    }

    private static void promise2Feed() {
        PassportOffice x = new PassportOffice();
        for (int i = 1; i <= 20; i++) Check.same("feed", 20 * i, x.feed(-1, 0, 1, 2, 3));
        Check.same("feed beyond 400", -1, x.feed(0, 0, 0, 0, 0));
        Check.yes("still 400", x.end(400));
        Check.yes("cut to 381", x.end(381));
        Check.same("381 and 20", -1, x.feed(0, 0, 0, 0, 0));
        Check.yes("cut to 380", x.end(380));
        Check.same("380 and 20", 400, x.feed(0, 0, 0, 0, 0));
        PassportOffice y = new PassportOffice();
        y.person(0, false, 0, 0, 0, 0, 0);
        y.feed(0x41424344, 0x45464748, 0x494a4b4c, 0x4d4e4f50, 0x51525354);
        Check.same("20 signs", 20, y.name(0));
        for (int i = 0; i < 20; i++) Check.same("highest byte first", 'A' + i, y.sign(0, i));
        y.feed(0x41414141, 0, 0, 0, 0);
        y.end(3);
        y.feed(0x42c44242, 0x42424242, 0x42424242, 0x42424242, 0x42424242);
        Check.same("behind what is there", 24, y.name(0));
        Check.same("behind", 'A', y.sign(0, 2));
        Check.same("behind", 'B', y.sign(0, 3));
        Check.same("a byte above 127", 'A', y.sign(0, 4));
        Check.same("a byte above 127", 'E', y.sign(0, 5));
    }

    private static void promise3End() {
        PassportOffice x = new PassportOffice();
        Check.yes("end 0 of none", x.end(0));
        Check.yes("end 1 of none", !x.end(1));
        x.feed(0, 0, 0, 0, 0);
        Check.yes("end below 0", !x.end(-1));
        Check.yes("end least", !x.end(Integer.MIN_VALUE));
        Check.yes("end 21 of 20", !x.end(21));
        Check.yes("end greatest", !x.end(Integer.MAX_VALUE));
        Check.yes("nothing happened, end 20 of 20", x.end(20));
        Check.yes("end 7", x.end(7));
        Check.yes("end 8 of 7", !x.end(8));
        Check.same("7 and 20", 27, x.feed(0, 0, 0, 0, 0));
    }

    private static void promise4Law() {
        String[] right = {
            "", "     ", "see", "  see  ", "fee0009", "need both if age<16", "see if not(not(age))",
            "see if age and not first or urgent", "see;see", " see ; see ", "back 1if urgent", "risk 9999",
            "years 1 if ( age )", "see if (((((((age)))))))and((((((((first))))))))",
            "see if not not not not not not not not age", "see if not(not(not(not age)))", "see if age>0and age<1or valid",
            "need deed;need photo;need consent;need both;need oldbook;need report;need ticket;need change",
            "see if wanted or valid or abroad or renew or lost or second",
        };
        int[] clauses = {0, 0, 1, 1, 1, 1, 1, 1, 2, 2, 1, 1, 1, 1, 1, 1, 1, 8, 1};
        for (int i = 0; i < right.length; i++) {
            PassportOffice x = new PassportOffice();
            Check.same("law(" + right[i] + ")", clauses[i], Check.law(x, 0, right[i]));
            Check.same("fault", -1, x.fault());
            Check.same("laws", 1, x.count(2));
            Check.same("clauses of today", clauses[i], x.count(15));
        }
    }

    private static void promise4LawWrong() {
        String[] wrong = {
            "need", "need ", "need  deed deed", "need 5", "need age", "need see", "Need deed", "needdeed", "need deedx",
            "fee", "fee deed", "fee 12345", "fee 00000", "fee -1", "fee 1 1", "fee 1,", "back", "back if age", "years x", "risk",
            "see see", "see if", "see if ", "see if deed", "see if age <", "see if age < <", "see if age < 12345",
            "see if age < 1 < 2", "see if age 5", "see if <5", "see if not", "see if ()", "see if (age", "see if (age))",
            "see if (age and", "see if age)", "see if and", "see if age and or", "see if age or and", "see if age not first",
            "see if if age", "see if age if age", ";see", "see;", "see; ", "see;;see", "if age", "age", "\tsee", "see\n", "see\0",
            "see if (((((((((age)))))))))", "see if ((((((((not age))))))))", "see if not (((((((not not age)))))))",
            "see if ageand first", "see if age andfirst", "see if age=5", "see if age<5x", "see if AGE", "see if age<=5",
            "\u00e9", "see if not not not not (not not not (not age))", "feE 5",
            "needz deed", "zneed deed", "see ifa", "see if agez", "see if a", "seea",
        };
        int[] faults = {
            4, 5, 11, 5, 5, 5, 0, 0, 5,
            3, 4, 4, 4, 4, 6, 5, 4, 5, 6, 4,
            4, 6, 7, 7, 12, 13, 13,
            15, 11, 7, 10, 8, 11, 12,
            15, 10, 7, 15, 14, 11,
            7, 11, 0, 4, 5, 4, 0, 0, 0, 3, 3,
            15, 15, 18,
            7, 11, 10, 12, 7, 11,
            0, 36, 0,
            0, 0, 4, 7, 7, 0,
        };
        for (int i = 0; i < wrong.length; i++) {
            PassportOffice x = new PassportOffice();
            String text = wrong[i];
            Check.feed(x, text);
            Check.argument("law(" + text + ")", () -> x.law(0));
            Check.same("fault of law(" + text + ")", i < faults.length ? faults[i] : -9, x.fault());
            Check.same("no law", 0, x.count(2));
        }
        Check.same("all have a fault", wrong.length, faults.length);
        String fifteen = "see;".repeat(15);
        wrong17(fifteen + "see", -1, 16);
        wrong17(fifteen + "see;", 64, 0);
        wrong17(fifteen + "see;  ", 66, 0);
        wrong17(fifteen + "see;  see", 66, 0);
        wrong17(fifteen + "see;  5", 66, 0);
        wrong17(fifteen + "see see;see", 64, 0);
    }

    private static void wrong17(String text, int fault, int clauses) {
        PassportOffice x = new PassportOffice();
        Check.feed(x, text);
        if (fault < 0) Check.same(text, clauses, x.law(0));
        else Check.argument(text, () -> x.law(0));
        Check.same("fault of " + text, fault, x.fault());
    }

    private static void promise4LawTape() {
        PassportOffice x = new PassportOffice();
        Check.law(x, 0, "see");
        Check.same("the tape is used up", 20, x.feed(0, 0, 0, 0, 0));
        Check.argument("wrong text", () -> x.law(0));
        Check.same("fault", 0, x.fault());
        Check.same("used up by a wrong text", 20, x.feed(0, 0, 0, 0, 0));
        Check.argument("wrong day", () -> x.law(-1));
        Check.same("the text was not read", 0, x.fault());
        Check.same("used up with a wrong day", 20, x.feed(0, 0, 0, 0, 0));
        x.end(0);
        Check.argument("behind the last day", () -> x.law(1001));
        Check.same("the last day", 1, Check.law(x, 1000, "see"));
        x.days(3);
        Check.argument("ahead of today", () -> x.law(2));
        for (int i = 2; i < 12; i++) Check.same("law " + i, 0, x.law(3));
        Check.same("twelve", 12, x.count(2));
        Check.feed(x, "see");
        Check.full("a thirteenth", () -> x.law(3));
        Check.same("it was read", -1, x.fault());
        Check.same("used up with twelve there", 20, x.feed(0, 0, 0, 0, 0));
        x.end(0);
        Check.feed(x, "see see");
        Check.argument("a wrong text goes ahead of the twelve", () -> x.law(3));
        Check.same("fault of the thirteenth", 4, x.fault());
        Check.argument("a wrong day goes ahead of the twelve", () -> x.law(1));
        Check.same("twelve still", 12, x.count(2));
        Check.same("the law of today is the last one told", 0, x.count(15));
    }

    private static void promise5Fault() {
        PassportOffice x = new PassportOffice();
        Check.same("ahead of any", -1, x.fault());
        Check.feed(x, "see 5");
        Check.argument("law", () -> x.law(0));
        Check.same("of a law", 4, x.fault());
        Check.feed(x, "a1");
        Check.index("no such person", () -> x.name(0));
        Check.same("the name was not read", 4, x.fault());
        x.person(0, false, 0, 0, 0, 0, 0);
        Check.feed(x, "a1");
        Check.argument("name", () -> x.name(0));
        Check.same("of a name", 1, x.fault());
        Check.name(x, 0, "a");
        Check.same("without one", -1, x.fault());
    }

    private static void promise7Name() {
        String all = "";
        for (int i = 0; i < 256; i++) {
            PassportOffice x = new PassportOffice();
            x.person(0, false, 0, 0, 0, 0, 0);
            String sign = String.valueOf((char) i);
            String turned = Turned.of(sign);
            Check.feed(x, "a" + sign + "b");
            if (turned.isEmpty()) {
                Check.argument("byte " + i, () -> x.name(0));
                Check.same("fault of byte " + i, 1, x.fault());
                Check.same("no name came", -1, x.sign(0, 0));
            } else {
                Check.same("byte " + i, 2 + turned.length(), x.name(0));
                Check.same("byte " + i, "A" + turned + "B" + "<".repeat(22 - turned.length()), signs(x, 0));
                all += sign;
            }
        }
        Check.same("signs in all", 52 + 2 + 21, all.length());
        wrongNames();
        PassportOffice x = new PassportOffice();
        x.person(0, false, 0, 0, 0, 0, 0);
        Check.same("the longest", 48, Check.name(x, 0, "\u00df".repeat(24)));
        Check.same("the first 24", "S".repeat(24), signs(x, 0));
        Check.same("in place of it", 2, Check.name(x, 0, "Zz"));
        Check.same("in place of it", "ZZ" + "<".repeat(22), signs(x, 0));
        Check.feed(x, "a--b");
        Check.argument("wrong", () -> x.name(0));
        Check.same("the one before stays", "ZZ" + "<".repeat(22), signs(x, 0));
        Check.same("the tape is used up", 20, x.feed(0, 0, 0, 0, 0));
        Check.index("no such person", () -> x.name(1));
        Check.same("the tape is used up with it", 20, x.feed(0, 0, 0, 0, 0));
        Check.index("below 0", () -> x.name(-1));
    }

    private static void wrongNames() {
        String[] wrong = {"", " ", "-", " a", "-a", "a ", "a-", "a  b", "a -b", "a--b", "a b ", "a.b", "a b1", "abcdefghijklmnopqrstuvwxy",
            "abcdefghijklmnopqrstuvw x", "abcdefghijklmnopqrstuvw-", "1", "abcdefghijklmnopqrstuvw<x"};
        int[] faults = {0, 0, 0, 0, 0, 2, 2, 2, 2, 2, 4, 1, 3, 24, 24, 24, 0, 23};
        for (int i = 0; i < wrong.length; i++) {
            PassportOffice x = new PassportOffice();
            x.person(0, false, 0, 0, 0, 0, 0);
            Check.feed(x, wrong[i]);
            Check.argument("name(" + wrong[i] + ")", () -> x.name(0));
            Check.same("fault of name(" + wrong[i] + ")", faults[i], x.fault());
        }
    }

    private static String signs(PassportOffice x, int person) {
        StringBuilder text = new StringBuilder();
        for (int i = 0; i < 24; i++) text.append((char) x.sign(person, i));
        return text.toString();
    }

    private static void promise8Sign() {
        PassportOffice x = new PassportOffice();
        x.person(0, false, 0, 0, 0, 0, 0);
        Check.same("without a name", -1, x.sign(0, 0));
        Check.name(x, 0, "o-\u00f6");
        Check.same("sign 0", 'O', x.sign(0, 0));
        Check.same("sign 1", '<', x.sign(0, 1));
        Check.same("sign 2", 'O', x.sign(0, 2));
        Check.same("sign 3", 'E', x.sign(0, 3));
        Check.same("sign 4", '<', x.sign(0, 4));
        Check.same("sign 23", '<', x.sign(0, 23));
        Check.same("sign 24", -1, x.sign(0, 24));
        Check.same("sign -1", -1, x.sign(0, -1));
        Check.same("the greatest sign", -1, x.sign(0, Integer.MAX_VALUE));
        Check.index("no such person", () -> x.sign(1, 0));
        Check.index("below 0", () -> x.sign(-1, 0));
    }

    private static void promise9Figure() {
        PassportOffice x = new PassportOffice();
        x.person(0, false, 0, 0, 0, 0, 0);
        Check.same("without a name", -1, x.figure(0));
        String[] names = {"a", "z", "aa", "aaa", "aaaa", "Anna Maria", "\u00df\u00df\u00df\u00df\u00df\u00df\u00df\u00df\u00df\u00df\u00df\u00df\u00df"};
        for (String name : names) {
            Check.name(x, 0, name);
            int sum = 0;
            for (int i = 0; i < 24; i++) {
                int sign = x.sign(0, i);
                sum += (sign == 60 ? 0 : sign - 55) * (i % 3 == 0 ? 7 : i % 3 == 1 ? 3 : 1);
            }
            Check.same("figure of " + name, sum % 10, x.figure(0));
        }
        Check.name(x, 0, "a");
        Check.same("10 * 7", 0, x.figure(0));
        Check.name(x, 0, "b");
        Check.same("11 * 7", 7, x.figure(0));
        Check.name(x, 0, "bb");
        Check.same("11 * 7 + 11 * 3", 0, x.figure(0));
        Check.name(x, 0, "a-b");
        Check.same("10 * 7 + 11", 1, x.figure(0));
        Check.index("no such person", () -> x.figure(1));
        Check.index("below 0", () -> x.figure(-1));
    }
}
