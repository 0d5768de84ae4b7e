/** The boundary cases of the tape and of names: promises 1 to 3, 5 and 7 to 9. */
final class EdgesOfTexts {
    private EdgesOfTexts() {
    }

    static void all() {
        Edge.of("Nobody, no LAW, no BLANKS; day 0.", EdgesOfTexts::nothingAtFirst);
        Edge.of("Twenty bytes come behind the TAPE, of each number the highest first: how many it has;",
            EdgesOfTexts::bytesHighestFirst);
        Edge.of("NONE, and none come, if it would have more than 400.", EdgesOfTexts::fullTape);
        Edge.of("The TAPE has its first n bytes alone: true;", EdgesOfTexts::cutTape);
        Edge.of("false, and nothing happens, if it has fewer, or n is below 0.", EdgesOfTexts::uncutTape);
        Edge.of("The first wrong byte of the latest text that was read (by law or name, behind what is asked ahead of it); "
            + "NONE without one, and ahead of any.", EdgesOfTexts::faultOfTheLatest);
        names();
    }

    private static void names() {
        Edge.of("a NAME (none at first).", EdgesOfTexts::noNameAtFirst);
        Edge.of("NAME: a text of 1 to 24 signs:", EdgesOfTexts::lengthOfANameIs1To24);
        Edge.of("letters a to z and A to Z, blanks (32), - (45), and the bytes 196, 228 (written AE), 214, 246 (OE), "
            + "220, 252 (UE), 223 (SS), 197, 229 (AA), 198, 230 (AE), 216, 248 (OE), 209, 241 (N), "
            + "201, 233, 200, 232 (E), 199, 231 (C);", EdgesOfTexts::signsOfAName);
        Edge.of("a blank or - stands neither first nor last, nor beside another one.", EdgesOfTexts::gapsOfAName);
        Edge.of("The first wrong byte: the first that is none of these or stands where it may not, or that is the 25th sign, "
            + "or the text's length (an empty one; one that ends in a blank or -).", EdgesOfTexts::firstWrongByteOfAName);
        Edge.of("TURNED: letters as A to Z, a blank or - as < (60), the others as told; "
            + "of it the first 24 count; what lacks to 24 is <.", EdgesOfTexts::turned);
        Edge.of("FIGURE: each sign of the 24 has a worth: A 10 to Z 35, < 0; times 7, 3, 1, 7, 3, 1, .. in turn; "
            + "the sum modulo 10.", EdgesOfTexts::figureOfEachSign);
        Edge.of("Uses the TAPE up: a NAME, in place of the one before: how many signs it has TURNED, all of them.",
            EdgesOfTexts::nameInPlace);
        Edge.of("IllegalArgumentException: the text is wrong: the one before stays.", EdgesOfTexts::nameBeforeStays);
        Edge.of("Sign i (0 to 23) of the NAME TURNED (its byte); NONE without a NAME, or if there is none such.",
            EdgesOfTexts::signsThatAre);
        Edge.of("FIGURE; NONE without a NAME.", EdgesOfTexts::figureWithoutAName);
    }

    private static void nothingAtFirst() {
        PassportOffice x = new PassportOffice();
        Check.same("day", 0, x.count(0));
        Check.same("people", 0, x.count(1));
        Check.same("laws", 0, x.count(2));
        Check.same("clauses", 0, x.count(15));
        Check.same("blanks", 0, x.count(8));
        Check.index("nobody", () -> x.figure(0));
        x.person(0, false, 0, 0, 0, 0, 0);
        Check.same("one more is born that day", 1, x.count(1));
        Scene.ask(x, 0, 0);
        x.days(1);
        Scene.state("no blank", x, 0, 5);
        Check.same("no clause", 0, x.led(0, 6));
    }

    private static void bytesHighestFirst() {
        PassportOffice x = Scene.people(1);
        Check.same("of none", 20, x.feed(0x41424344, 0x45464748, 0x494a4b4c, 0x4d4e4f50, 0x51525354));
        Check.same("20 signs", 20, x.name(0));
        Check.same("in turn", "ABCDEFGHIJKLMNOPQRST<<<<", Scene.signs(x, 0));
        x.feed(0xc4424344, 0xdf464748, 0, 0, 0);
        x.end(8);
        Check.same("the sign of a number is a bit of its first byte", 10, x.name(0));
        Check.same("its bytes", "AEBCDSSFGH<<<<<<<<<<<<<<", Scene.signs(x, 0));
        x.feed(0x41ffffff, -1, -1, -1, Integer.MIN_VALUE);
        x.end(1);
        Check.same("behind 1", 21, x.feed(0x42424242, 0, 0, 0, 0));
        x.end(5);
        Check.same("five", 5, x.name(0));
        Check.same("right behind", "ABBBB<<<<<<<<<<<<<<<<<<<", Scene.signs(x, 0));
    }

    private static void fullTape() {
        PassportOffice x = new PassportOffice();
        for (int n = 20; n <= 400; n += 20) Check.same("feed", n, x.feed(0, 0, 0, 0, 0));
        Check.same("401 to 420", -1, x.feed(0, 0, 0, 0, 0));
        Check.yes("none came", !x.end(401));
        Check.yes("none went", x.end(400));
        Check.yes("381", x.end(381));
        Check.same("382 to 401", -1, x.feed(0, 0, 0, 0, 0));
        Check.yes("not one of them came", !x.end(382));
        Check.yes("381 still", x.end(381));
        Check.yes("380", x.end(380));
        Check.same("381 to 400", 400, x.feed(0, 0, 0, 0, 0));
        PassportOffice y = new PassportOffice();
        Check.feed(y, "see" + " ".repeat(394) + ";se");
        Check.same("400 there", -1, y.feed(0x65202020, 0, 0, 0, 0));
        Check.argument("the 400 alone are read", () -> y.law(0));
        Check.same("the last word is none", 398, y.fault());
        Check.feed(y, "see" + " ".repeat(394) + "if" + " ");
        Check.argument("a text of 400", () -> y.law(0));
        Check.same("more must come", 400, y.fault());
        Check.feed(y, "see" + " ".repeat(393) + ";see");
        Check.same("a right text of 400", 2, y.law(0));
    }

    private static void cutTape() {
        PassportOffice x = new PassportOffice();
        Check.yes("0 of none", x.end(0));
        x.feed(0x7365653b, 0x7365653b, 0x7365653b, 0x7365653b, 0x7365653b);
        Check.yes("all 20", x.end(20));
        Check.yes("19", x.end(19));
        Check.same("the first 19 alone: the last ; is gone", 5, x.law(0));
        Check.feed(x, "see;see");
        Check.yes("three", x.end(3));
        Check.same("the first 3 alone", 1, x.law(0));
        x.feed(-1, -1, -1, -1, -1);
        Check.yes("none", x.end(0));
        Check.same("an empty text", 0, x.law(0));
        x.feed(0, 0, 0, 0, 0);
        Check.yes("one", x.end(1));
        Check.same("behind it", 21, x.feed(0, 0, 0, 0, 0));
    }

    private static void uncutTape() {
        PassportOffice x = new PassportOffice();
        Check.yes("1 of none", !x.end(1));
        Check.yes("-1 of none", !x.end(-1));
        Check.feed(x, "see;see;see;see;see;");
        Check.yes("21 of 20", !x.end(21));
        Check.yes("below 0", !x.end(-1));
        Check.yes("the least number", !x.end(Integer.MIN_VALUE));
        Check.yes("the greatest number", !x.end(Integer.MAX_VALUE));
        Check.same("20 still", 40, x.feed(0x73656520, 0x20202020, 0x20202020, 0x20202020, 0x20202020));
        Check.yes("cut to 23", x.end(23));
        Check.yes("the 24th is gone", !x.end(24));
        Check.same("all 23", 6, x.law(0));
    }

    private static void faultOfTheLatest() {
        PassportOffice x = new PassportOffice();
        Check.same("ahead of any", -1, x.fault());
        x.feed(0, 0, 0, 0, 0);
        Check.same("a text that was not read", -1, x.fault());
        Check.argument("a wrong law", () -> x.law(0));
        Check.same("its first byte", 0, x.fault());
        Check.feed(x, "see 5");
        Check.argument("the day is asked ahead of the text", () -> x.law(-1));
        Check.same("not read", 0, x.fault());
        Check.feed(x, "a1");
        Check.index("the person is asked ahead of the text", () -> x.name(0));
        Check.same("not read", 0, x.fault());
        x.person(0, false, 0, 0, 0, 0, 0);
        Check.feed(x, "a1");
        Check.argument("a wrong name", () -> x.name(0));
        Check.same("of the name", 1, x.fault());
        Check.law(x, 0, "see");
        Check.same("none in the law", -1, x.fault());
        Check.feed(x, "a--");
        Check.argument("a wrong name", () -> x.name(0));
        Check.same("of the name", 2, x.fault());
        Check.name(x, 0, "a");
        Check.same("none in the name", -1, x.fault());
    }

    private static void noNameAtFirst() {
        PassportOffice x = Scene.people(2);
        Check.name(x, 0, "a");
        Check.same("none of another one", -1, x.sign(1, 0));
        Check.same("none of another one", -1, x.figure(1));
        Check.same("one of the first", 'A', x.sign(0, 0));
    }

    /** How many signs a name has, turned, or where it is wrong. */
    private static String read(String text) {
        PassportOffice x = Scene.people(1);
        Check.feed(x, text);
        try {
            return x.name(0) + " signs";
        } catch (IllegalArgumentException e) {
            return "wrong at " + x.fault();
        }
    }

    private static void lengthOfANameIs1To24() {
        Check.same("0", "wrong at 0", read(""));
        Check.same("1", "1 signs", read("a"));
        Check.same("23", "23 signs", read("a".repeat(23)));
        Check.same("24", "24 signs", read("a".repeat(24)));
        Check.same("25", "wrong at 24", read("a".repeat(25)));
        Check.same("26", "wrong at 24", read("a".repeat(26)));
        Check.same("400", "wrong at 24", read("a".repeat(400)));
        Check.same("signs count as they come, not turned", "48 signs", read("\u00c6".repeat(24)));
        Check.same("one more", "wrong at 24", read("\u00c6".repeat(25)));
    }

    private static void signsOfAName() {
        String doubled = "\u00c4\u00e4\u00d6\u00f6\u00dc\u00fc\u00df\u00c5\u00e5\u00c6\u00e6\u00d8\u00f8";
        String doubledAs = "AEAEOEOEUEUESSAAAAAEAEOEOE";
        String single = "\u00d1\u00f1\u00c9\u00e9\u00c8\u00e8\u00c7\u00e7";
        String singleAs = "NNEEEECC";
        for (int i = 0; i < 256; i++) {
            char sign = (char) i;
            int two = doubled.indexOf(sign);
            int one = single.indexOf(sign);
            boolean letter = sign >= 'a' && sign <= 'z' || sign >= 'A' && sign <= 'Z';
            String as = "";
            if (two >= 0) as = doubledAs.substring(2 * two, 2 * two + 2);
            else if (one >= 0) as = singleAs.substring(one, one + 1);
            else if (letter) as = String.valueOf((char) (i & 223));
            else if (i == 32 || i == 45) as = "<";
            if (as.isEmpty()) {
                Check.same("byte " + i, "wrong at 1", read("x" + sign + "y"));
            } else {
                PassportOffice x = Scene.people(1);
                Check.same("byte " + i, 2 + as.length(), Check.name(x, 0, "x" + sign + "y"));
                Check.same("byte " + i, ("X" + as + "Y" + "<".repeat(24)).substring(0, 24), Scene.signs(x, 0));
            }
        }
    }

    private static void gapsOfAName() {
        for (String gap : Check.of(" ", "-")) {
            Check.same("alone", "wrong at 0", read(gap));
            Check.same("first", "wrong at 0", read(gap + "a"));
            Check.same("last", "wrong at 2", read("a" + gap));
            Check.same("second", "3 signs", read("a" + gap + "b"));
            Check.same("last but one", "24 signs", read("a".repeat(22) + gap + "b"));
            Check.same("the 24th", "wrong at 24", read("a".repeat(23) + gap));
            Check.same("with one sign between", "5 signs", read("a" + gap + "b" + gap + "c"));
            for (String other : Check.of(" ", "-")) {
                Check.same("beside another one", "wrong at 2", read("a" + gap + other + "b"));
                Check.same("first, beside another one", "wrong at 0", read(gap + other + "b"));
                Check.same("last, beside another one", "wrong at 2", read("a" + gap + other));
            }
        }
    }

    private static void firstWrongByteOfAName() {
        Check.same("an empty one", "wrong at 0", read(""));
        Check.same("one that ends in a blank", "wrong at 4", read("abc "));
        Check.same("one that ends in -", "wrong at 2", read("a-"));
        Check.same("24 signs, the last a blank", "wrong at 24", read("a".repeat(23) + " "));
        Check.same("the 25th is a blank", "wrong at 24", read("a".repeat(24) + " "));
        Check.same("the 24th and the 25th are blanks", "wrong at 24", read("a".repeat(23) + "  "));
        Check.same("the 25th is none of these", "wrong at 24", read("a".repeat(24) + "1"));
        Check.same("the 24th is none of these", "wrong at 23", read("a".repeat(23) + "1b"));
        Check.same("the first of two", "wrong at 1", read("a1  b"));
        Check.same("the first of two", "wrong at 2", read("a  1b"));
        Check.same("the first byte", "wrong at 0", read("1"));
        Check.same("a byte ahead of the end", "wrong at 1", read("a1 "));
        Check.same("the byte 0", "wrong at 1", read("a\0"));
    }

    private static String turned(String text) {
        PassportOffice x = Scene.people(1);
        Check.name(x, 0, text);
        return Scene.signs(x, 0);
    }

    private static void turned() {
        Check.same("one sign", "A" + "<".repeat(23), turned("a"));
        Check.same("the first and the last letters", "AZAZ" + "<".repeat(20), turned("azAZ"));
        Check.same("gaps", "A<B<C" + "<".repeat(19), turned("a b-c"));
        Check.same("23", "B".repeat(23) + "<", turned("b".repeat(23)));
        Check.same("24", "B".repeat(24), turned("b".repeat(24)));
        Check.same("two signs end at 24", "B".repeat(22) + "AE", turned("b".repeat(22) + "\u00e4"));
        Check.same("two signs over the 24th", "B".repeat(23) + "S", turned("b".repeat(23) + "\u00df"));
        Check.same("what is behind the 24th", "SS".repeat(12), turned("\u00df".repeat(12) + "abcdefghijkl"));
    }

    private static int figure(String text) {
        PassportOffice x = Scene.people(1);
        Check.name(x, 0, text);
        return x.figure(0);
    }

    private static void figureOfEachSign() {
        Check.same("A: 70", 0, figure("a"));
        Check.same("B: 77", 7, figure("B"));
        Check.same("Z: 245", 5, figure("z"));
        Check.same("Y: 238", 8, figure("y"));
        Check.same("BB: 77 and 33", 0, figure("bb"));
        Check.same("B<B: 77 and 0 and 11", 8, figure("b b"));
        Check.same("N for a marked one: 23 by 7 is 161", 1, figure("\u00f1"));
        int[] times = {7, 3, 1};
        for (int i = 0; i < 24; i++) {
            // A is worth 10 and leaves nothing modulo 10: what is left is of the B alone
            Check.same("B as sign " + i, times[i % 3], figure("a".repeat(i) + "b" + "a".repeat(23 - i)));
        }
        Check.same("the 25th does not count", 0, figure("a".repeat(23) + "\u00e4"));
        Check.same("nor those behind", 0, figure("\u00c5".repeat(12) + "bbbbbbbbbbbb"));
    }

    private static void nameInPlace() {
        PassportOffice x = Scene.people(1);
        Check.same("the longest", 48, Check.name(x, 0, "\u00df".repeat(24)));
        Check.same("the tape is used up", 20, x.feed(0, 0, 0, 0, 0));
        Check.yes("cut", x.end(0));
        Check.same("the shortest in its place", 1, Check.name(x, 0, "a"));
        Check.same("nothing is left of the one before", "A" + "<".repeat(23), Scene.signs(x, 0));
        Check.same("25, all of them", 25, Check.name(x, 0, "a".repeat(23) + "\u00c4"));
    }

    private static void nameBeforeStays() {
        PassportOffice x = Scene.people(1);
        Check.name(x, 0, "ab");
        Check.argument("an empty one", () -> x.name(0));
        Check.same("it stays", "AB" + "<".repeat(22), Scene.signs(x, 0));
        Check.feed(x, "x".repeat(25));
        Check.argument("one that is too long", () -> x.name(0));
        Check.same("it stays", "AB" + "<".repeat(22), Scene.signs(x, 0));
        Check.same("the tape is used up", 20, x.feed(0, 0, 0, 0, 0));
        Check.argument("a wrong byte", () -> x.name(0));
        Check.same("its figure stays: 70 and 33", 3, x.figure(0));
    }

    private static void signsThatAre() {
        PassportOffice x = Scene.people(2);
        Check.same("without a name", -1, x.sign(0, 0));
        Check.name(x, 0, "x".repeat(23) + "\u00c9");
        Check.same("0", 'X', x.sign(0, 0));
        Check.same("23", 'E', x.sign(0, 23));
        Check.same("24", -1, x.sign(0, 24));
        Check.same("-1", -1, x.sign(0, -1));
        Check.same("the least number", -1, x.sign(0, Integer.MIN_VALUE));
        Check.same("the greatest number", -1, x.sign(0, Integer.MAX_VALUE));
        Check.index("the person goes ahead", () -> x.sign(2, 24));
        Check.index("below 0", () -> x.sign(-1, 0));
        Check.index("not the number of the sign", () -> x.sign(2, 0));
        Check.same("nor of another one", -1, x.sign(1, 23));
    }

    private static void figureWithoutAName() {
        PassportOffice x = Scene.people(2);
        Check.same("without", -1, x.figure(0));
        Check.argument("a wrong name", () -> x.name(0));
        Check.same("without still", -1, x.figure(0));
        Check.name(x, 0, "a");
        Check.same("with one that makes 0", 0, x.figure(0));
        Check.index("2", () -> x.figure(2));
        Check.index("-1", () -> x.figure(-1));
    }
}
