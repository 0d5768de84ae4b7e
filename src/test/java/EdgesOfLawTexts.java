/** The boundary cases of laws as texts: promise 4, and what a law may say. */
final class EdgesOfLawTexts {
    private static final String ITEMS = "deed photo consent both oldbook report ticket change";
    private static final String FACTS = "age wanted valid abroad first renew lost second urgent";

    private EdgesOfLawTexts() {
    }

    static void all() {
        Edge.of("A LAW: a text: CLAUSE { ; CLAUSE }, at most 16.", EdgesOfLawTexts::clausesAreAtMost16);
        Edge.of("CLAUSE: need ITEM [ if COND ] | fee NUMBER [ if COND ] | back NUMBER [ if COND ] | years NUMBER [ if COND ] "
            + "| risk NUMBER [ if COND ] | see [ if COND ].", EdgesOfLawTexts::kindsOfClauses);
        Edge.of("ITEM: deed, photo, consent, both, oldbook, report, ticket, change (bits 1, 2, 4, .. 128).",
            EdgesOfLawTexts::itemsAndTheirBits);
        Edge.of("COND: ALL { or ALL }; ALL: ATOM { and ATOM }; ATOM: not ATOM | ( COND ) | FACT [ < NUMBER | > NUMBER ].",
            EdgesOfLawTexts::conditions);
        Edge.of("FACT: age, wanted, valid, abroad, first, renew, lost, second, urgent.", EdgesOfLawTexts::facts);
        Edge.of("NUMBER: 1 to 4 digits.", EdgesOfLawTexts::numbersHave1To4Digits);
        Edge.of("( and not within one another at most 8 deep.", EdgesOfLawTexts::eightDeep);
        Edge.of("Words are as long as a to z go on;", EdgesOfLawTexts::wordsAreAtoZ);
        Edge.of("between all there may be blanks (32), also ahead and behind.", EdgesOfLawTexts::blanks);
        Edge.of("A text that is empty, or blanks alone, has none.", EdgesOfLawTexts::noClause);
        Edge.of("The first wrong byte: the begin of the first thing that cannot stand there", EdgesOfLawTexts::firstWrongThing);
        Edge.of("(a NUMBER of more digits;", EdgesOfLawTexts::numberOfMoreDigits);
        Edge.of("a word that is none;", EdgesOfLawTexts::wordThatIsNone);
        Edge.of("the ( or not that is a 9th one deep;", EdgesOfLawTexts::ninthDeep);
        Edge.of("of a 17th CLAUSE its first word),", EdgesOfLawTexts::seventeenthClause);
        Edge.of("or the text's length, if more must come.", EdgesOfLawTexts::moreMustCome);
        Edge.of("Uses the TAPE up: a LAW for a day on: how many CLAUSES.", EdgesOfLawTexts::usesTheTapeUp);
        Edge.of("IllegalArgumentException: the day is none, then: the text is wrong; UnsupportedOperationException: there are 12.",
            EdgesOfLawTexts::exceptionsOfLaw);
        Edge.of("LAWS (at most 12) are told for a day on (TODAY or later, 1000 at most):", EdgesOfLawTexts::daysOfLaws);
    }

    /** How many clauses a text has, or where it is wrong. */
    private static String read(String text) {
        PassportOffice x = new PassportOffice();
        Check.feed(x, text);
        try {
            int clauses = x.law(0);
            return x.fault() < 0 ? clauses + " clauses" : "taken, though wrong at " + x.fault();
        } catch (IllegalArgumentException e) {
            return "wrong at " + x.fault();
        }
    }

    private static void right(String text) {
        int clauses = text.length() - text.replace(";", "").length() + 1;
        Check.same(text, clauses + " clauses", read(text));
    }

    /** A text whose first wrong thing stands at the first sign "!" of what is told. */
    private static void wrong(String told) {
        int at = told.indexOf('!');
        Check.same(told, "wrong at " + at, read(told.substring(0, at) + told.substring(at + 1)));
    }

    private static void clausesAreAtMost16() {
        right("see");
        right("see;see");
        right("see;".repeat(14) + "see");
        right("see;".repeat(15) + "see");
        wrong("see;".repeat(16) + "!see");
        wrong("see;".repeat(16) + "!see;see");
        right("need deed if (age<5 or age>9) and not first;".repeat(7) + "fee 1");
        PassportOffice x = Scene.people(1);
        Check.law(x, 0, "fee 1;".repeat(15) + "fee 100");
        Check.same("the 16th counts too", 115, x.judge(0, 0, 0, false, 1));
    }

    private static void kindsOfClauses() {
        for (String body : Check.of("need deed", "fee 1", "back 1", "years 1", "risk 1", "see")) {
            right(body);
            right(body + " if age");
            wrong(body + " if!");
            wrong(body + " if age !if age");
            wrong(body + " !deed");
            wrong(body + " !1");
            wrong(body + " !age");
            wrong(body + "!,");
        }
        wrong("need!");
        wrong("fee!");
        wrong("back!");
        wrong("years!");
        wrong("risk!");
        wrong("need !1");
        wrong("need !if age");
        wrong("need !age");
        wrong("fee !deed");
        wrong("back !if age");
        wrong("!if age");
        wrong("!deed");
        wrong("!1");
        wrong("!;");
        wrong("see;!;");
        wrong("!age");
    }

    private static void itemsAndTheirBits() {
        int[] bits = {1, 2, 4, 8, 16, 32, 64, 128};
        String[] items = ITEMS.split(" ");
        for (int i = 0; i < 8; i++) {
            PassportOffice x = Scene.people(1);
            Check.same(items[i], 1, Check.law(x, 0, "need " + items[i]));
            Check.same(items[i], bits[i], x.judge(0, 0, 0, false, 0));
            wrong("need !" + items[i] + "s");
            wrong("need !" + items[i].substring(0, items[i].length() - 1));
            wrong("need !" + items[i].substring(1));
            wrong("need " + items[i] + " !" + items[i]);
        }
        PassportOffice x = Scene.people(1);
        Check.law(x, 0, "need " + ITEMS.replace(" ", ";need "));
        Check.same("all eight", 255, x.judge(0, 0, 0, false, 0));
    }

    /** Whether a condition holds for one who asks for a first one, urgent or not. */
    private static boolean holds(String cond, boolean urgent) {
        PassportOffice x = Scene.people(1);
        Check.law(x, 0, "see if " + cond);
        return x.judge(0, 0, 0, urgent, 4) == 1;
    }

    private static void conditions() {
        Check.yes("and goes ahead of or", holds("first or abroad and urgent", false));
        Check.yes("and goes ahead of or", holds("abroad and urgent or first", false));
        Check.yes("brackets go ahead of and", !holds("(first or abroad) and urgent", false));
        Check.yes("not is of the atom alone", holds("not abroad or urgent", false));
        Check.yes("not is of the atom alone", !holds("not first and abroad", false));
        Check.yes("not of a bracket", !holds("not (abroad or first)", false));
        Check.yes("not of a comparing one", holds("not urgent>0", false));
        Check.yes("not of not", holds("not not first", false));
        Check.yes("the last of four", holds("abroad or renew or lost or urgent", true));
        Check.yes("none of four", !holds("abroad or renew or lost or urgent", false));
        Check.yes("all of three", holds("first and not abroad and urgent", true));
        Check.yes("but the last of three", !holds("first and not abroad and urgent", false));
        Check.yes("but the first of three", !holds("abroad and first and urgent", true));
        wrong("see if (!)");
        wrong("see if age!)");
        wrong("see if (age!;see)");
        wrong("see if (age !if age)");
        wrong("see if age !not first");
        wrong("see if age !(first)");
        wrong("see if !or age");
        wrong("see if age and !and first");
        wrong("see if age or !;");
        wrong("see if !<5");
        wrong("see if (age)!<5");
        wrong("see if age<5!<6");
        wrong("see if age<5!>6");
        wrong("see if age!=5");
        wrong("see if age<!=5");
        wrong("see if age<!first");
        wrong("see if age !5");
        wrong("see if !5<age");
        wrong("see if not !)");
    }

    private static void facts() {
        for (String fact : FACTS.split(" ")) {
            right("see if " + fact);
            right("see if " + fact + "<0");
            right("see if " + fact + ">9999");
            wrong("see if !" + fact + "s");
            wrong("see if !" + fact.substring(0, fact.length() - 1));
            wrong("see if !" + fact.substring(1));
        }
        wrong("see if !home");
        wrong("see if !deed");
        wrong("see if !see");
    }

    private static void numbersHave1To4Digits() {
        for (String word : Check.of("fee ", "back ", "years ", "risk ", "see if age<", "see if age>")) {
            wrong(word + "!");
            right(word + "0");
            right(word + "9");
            right(word + "0000");
            right(word + "9999");
            wrong(word + "!00000");
            wrong(word + "!10000");
            wrong(word + "!0123456789");
            wrong(word + "!-1");
            wrong(word + "1!.5");
            wrong(word + "1 !2");
        }
        PassportOffice x = Scene.people(1);
        Check.law(x, 0, "fee 9999;risk 0042;years 7;back 0");
        Check.same("four digits", 9999, x.judge(0, 0, 0, false, 1));
        Check.same("digits 0 ahead", 42, x.judge(0, 0, 0, false, 3));
        Check.same("one digit", 7, x.judge(0, 0, 0, false, 2));
        Check.same("the digit 0", 0, x.judge(0, 0, 0, false, 5));
        wrong("fee 1!/");
        wrong("fee 1!:");
    }

    private static void eightDeep() {
        right("see if age");
        right("see if " + "(".repeat(8) + "age" + ")".repeat(8));
        wrong("see if " + "(".repeat(8) + "!(age" + ")".repeat(9));
        right("see if " + "not ".repeat(8) + "age");
        wrong("see if " + "not ".repeat(8) + "!not age");
        right("see if " + "not (".repeat(4) + "age" + ")".repeat(4));
        wrong("see if " + "not (".repeat(4) + "!not age" + ")".repeat(4));
        wrong("see if " + "not (".repeat(4) + "!(age)" + ")".repeat(4));
        right("see if " + "(".repeat(8) + "age" + ")".repeat(8) + " and " + "(".repeat(8) + "age" + ")".repeat(8));
        right("see if " + "not ".repeat(8) + "age or " + "not ".repeat(8) + "age");
        right("see if " + "(".repeat(7) + "not age or not first and not lost" + ")".repeat(7));
        right("see if " + "(".repeat(7) + "(age) or (first) and (lost)" + ")".repeat(7));
        wrong("see if " + "(".repeat(7) + "(age) or (first and !not lost)" + ")".repeat(7));
        right("see if " + "not ".repeat(8) + "age;see if " + "(".repeat(8) + "age" + ")".repeat(8));
        Check.yes("eight times not", holds("not ".repeat(8) + "first", false));
        Check.yes("seven times not", !holds("not ".repeat(7) + "first", false));
        Check.yes("eight brackets", holds("((((((((first))))))))", false));
    }

    private static void wordsAreAtoZ() {
        wrong("!needdeed");
        wrong("!seeif age");
        wrong("see !ifage");
        wrong("need !deedif age");
        wrong("see if !notage");
        wrong("see if !ageor first");
        wrong("see if age !orfirst");
        wrong("see if age !andfirst");
        wrong("!feex 5");
        wrong("!feez 5");
        wrong("!feea 5");
        wrong("see if !agez");
        wrong("see if !agea");
        wrong("need !deedz");
        wrong("!asee");
        wrong("!See");
        wrong("!s ee");
        wrong("see!`");
        wrong("see!{");
        wrong("see!A");
        wrong("see!Z");
        wrong("need deed!\u00e4");
        right("fee5if urgent");
        right("see if(age)or(first)and not(urgent)");
        right("see if age<5or age>3and first");
        right("years5;risk9if age>1");
        wrong("see if not!5");
        wrong("fee5!fee");
    }

    private static void blanks() {
        right(" see");
        right("see ");
        right("   see   ");
        right("  see  ;  see  ");
        right(" need  deed  if  (  not  age  <  5  or  first  )  ");
        right("see" + " ".repeat(397));
        right(" ".repeat(397) + "see");
        wrong("!\tsee");
        wrong("see!\n");
        wrong("see!\0");
        wrong("see!\u001f");
        wrong("see!\u00a0");
        wrong("fee 1 !2");
        wrong("!n eed deed");
    }

    private static void noClause() {
        for (String text : Check.of("", " ", " ".repeat(20), " ".repeat(400))) {
            PassportOffice x = Scene.people(1);
            Check.law(x, 0, "fee 5");
            Check.same(text.length() + " blanks", 0, Check.law(x, 0, text));
            Check.same("no fault", -1, x.fault());
            Check.same("it is a law", 2, x.count(2));
            Check.same("without clauses", 0, x.count(15));
            Check.same("without a fee", 0, x.judge(0, 0, 0, false, 1));
        }
        wrong(" !;");
        wrong("see;!");
    }

    private static void firstWrongThing() {
        wrong("!x");
        wrong("   !x");
        wrong("see   !x");
        wrong("need   !x;x");
        wrong("fee !x 12345");
        wrong("see if   !x");
        wrong("see if age   !x");
        wrong("see if age <   !x");
        wrong("see if (age   !x)");
        wrong("see;  !x;y");
        wrong("need deed;need photo;need !shoes;need hats");
        wrong("!)");
        wrong("!(see)");
        wrong("!,");
        wrong("!\u00ff");
    }

    private static void numberOfMoreDigits() {
        wrong("fee !12345");
        wrong("fee   !12345");
        wrong("see if age<!12345");
        wrong("see if age>  !99999");
        wrong("fee 1;fee 12;fee 123;fee 1234;fee !12345");
        wrong("fee !" + "0".repeat(396));
        right("fee 1234");
    }

    private static void wordThatIsNone() {
        wrong("!ask");
        wrong("!sees");
        wrong("!se");
        wrong("!a");
        wrong("need !deeds");
        wrong("see !of age");
        wrong("see !i");
        wrong("see if !old");
        wrong("see if age !nor first");
        wrong("see if age !orr first");
        wrong("see if !no age");
        wrong("!" + "z".repeat(400));
    }

    private static void ninthDeep() {
        wrong("see if ((((((((!(age)))))))))");
        wrong("see if ((((((((  !not age))))))))");
        wrong("see if not not not not not not not not !not age");
        wrong("see if not not not not not not not not !(age)");
        wrong("see if age or ((((((((!((age");
        wrong("see if ((((((((!(");
    }

    private static void seventeenthClause() {
        String sixteen = "see;".repeat(15) + "see";
        wrong(sixteen + ";!see");
        wrong(sixteen + ";   !see");
        wrong(sixteen + ";!need shoes");
        wrong(sixteen + ";!x");
        wrong(sixteen + ";!see;see;see");
        wrong("see;".repeat(14) + "need !x;see;see");
        wrong(sixteen + " !see");
        wrong(sixteen + ";!;");
    }

    private static void moreMustCome() {
        wrong("need!");
        wrong("need   !");
        wrong("fee!");
        wrong("see;!");
        wrong("see;  !");
        wrong("see if!");
        wrong("see if age<!");
        wrong("see if age<  !");
        wrong("see if not!");
        wrong("see if (!");
        wrong("see if (age!");
        wrong("see if (age  !");
        wrong("see if ((age)!");
        wrong("see if age and!");
        wrong("see if age or!");
        wrong("see if (age<5 or!");
        wrong("see;".repeat(16) + "!");
        wrong("see;".repeat(16) + "  !");
        wrong("see" + " ".repeat(396) + ";!");
    }

    private static void usesTheTapeUp() {
        PassportOffice x = new PassportOffice();
        Check.same("a text", 1, Check.law(x, 0, "see"));
        Check.same("the tape is empty", 20, x.feed(0, 0, 0, 0, 0));
        Check.argument("a wrong text", () -> x.law(0));
        Check.same("the tape is empty", 20, x.feed(0, 0, 0, 0, 0));
        Check.argument("a wrong day", () -> x.law(1001));
        Check.same("the tape is empty", 20, x.feed(0, 0, 0, 0, 0));
        x.end(0);
        for (int i = 1; i < 12; i++) Check.same("none on an empty tape", 0, x.law(0));
        Check.feed(x, "see");
        Check.full("a 13th", () -> x.law(0));
        Check.same("the tape is empty", 20, x.feed(0, 0, 0, 0, 0));
    }

    private static void exceptionsOfLaw() {
        PassportOffice x = new PassportOffice();
        Check.feed(x, "x");
        Check.argument("a wrong day and a wrong text", () -> x.law(-1));
        Check.same("the day goes ahead", -1, x.fault());
        for (int i = 0; i < 12; i++) Check.same("law " + i, 1, Check.law(x, 0, "see"));
        Check.feed(x, "x");
        Check.argument("a wrong day and 12", () -> x.law(-1));
        Check.same("the text was not read", -1, x.fault());
        Check.feed(x, "fee x");
        Check.argument("a wrong text and 12", () -> x.law(0));
        Check.same("the text was read", 4, x.fault());
        Check.feed(x, "see;see");
        Check.full("12", () -> x.law(0));
        Check.same("the text was read, and is right", -1, x.fault());
        Check.same("12 still", 12, x.count(2));
        Check.same("the law is the one it was", 1, x.count(15));
    }

    private static void daysOfLaws() {
        PassportOffice x = new PassportOffice();
        Check.argument("ahead of today", () -> x.law(-1));
        Check.same("today", 0, x.law(0));
        Check.argument("behind the last day", () -> x.law(1001));
        Check.same("the last day", 0, x.law(1000));
        Check.argument("the least number", () -> x.law(Integer.MIN_VALUE));
        Check.argument("the greatest number", () -> x.law(Integer.MAX_VALUE));
        x.days(7);
        Check.argument("yesterday", () -> x.law(6));
        Check.same("today", 0, x.law(7));
        for (int i = 4; i <= 12; i++) {
            Check.same("tomorrow", 0, x.law(8));
            Check.same("laws", i, x.count(2));
        }
        Check.full("a 13th", () -> x.law(8));
        Check.same("12", 12, x.count(2));
        PassportOffice y = new PassportOffice();
        Scene.goTo(y, 1000);
        Check.argument("yesterday", () -> y.law(999));
        Check.same("at last", 1, Check.law(y, 1000, "see"));
        Check.same("its law", 1, y.count(15));
    }
}
