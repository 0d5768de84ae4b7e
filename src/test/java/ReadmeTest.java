import java.io.IOException;
import java.nio.file.Files;
import java.nio.file.Path;
import java.util.Set;
import java.util.stream.Collectors;

/** What README.md shows: its lines of Java stand here and answer what it tells, and it names each test and call. */
final class ReadmeTest {
    public static void main(String[] args) throws IOException {
        oneAfterTheOther();
        linesStandHere();
        namesAll();
        Check.close();
    }

    /** Puts a text (400 signs at most, each 0 to 255) on the empty tape. */
    static void put(PassportOffice office, String text) {
        for (int at = 0; at < text.length(); at += 20) {
            int[] n = new int[5];
            for (int k = 0; k < 20; k++) {
                int sign = at + k < text.length() ? text.charAt(at + k) : 0;
                n[k / 4] = n[k / 4] << 8 | sign;
            }
            office.feed(n[0], n[1], n[2], n[3], n[4]);
        }
        office.end(text.length());
    }

    private static void oneAfterTheOther() {
        PassportOffice office = new PassportOffice();

        put(office, "need photo; need consent if age < 18; fee 40; fee 20 if urgent; back 5; risk 3 if abroad or lost");
        int clauses = office.law(0);                                 // 6
        Check.same("clauses", 6, clauses);

        int jorg = office.person(-9000, false, 10, 20, 30, 40, 50);  // 0: 24 years old, at home, a face
        int ada = office.person(-5000, true, 90, 80, 70, 60, 50);    // 1: 13 years old, abroad
        put(office, "J\u00f6rg Gro\u00df");
        int signs = office.name(jorg);                               // 11: JOERG<GROSS
        Check.same("jorg", 0, jorg);
        Check.same("ada", 1, ada);
        Check.same("signs", 11, signs);
        Check.same("turned", "JOERG<GROSS<<<<<<<<<<<<<", Scene.signs(office, jorg));

        int needs = office.judge(ada, 0, 30, true, 0);               // 6: photo (2) and consent (4)
        int fee = office.judge(ada, 0, 30, true, 1);                 // 60
        Check.same("needs", 6, needs);
        Check.same("fee", 60, fee);

        int his = office.ask(jorg, 0, 20, 2, false);                 // 0: a first one for day 20, with a photo
        int hers = office.ask(ada, 0, 30, 2, true);                  // 1: urgent, but without the consent
        office.blanks(10);
        office.days(1);
        int state = office.led(hers, 0);                             // 1: it is back ..
        int lacks = office.led(hers, 6);                             // 4: .. for the consent
        office.give(hers, 4);
        Check.same("his", 0, his);
        Check.same("hers", 1, hers);
        Check.same("state", 1, state);
        Check.same("lacks", 4, lacks);

        int missed = office.missed(1, 40);                           // 0: in 40 days both would have come in time
        int today = office.days(2);                                  // 3
        int got = office.led(his, 13);                               // 3: the day on which he got it
        int comes = office.led(hers, 14);                            // 11: the day on which hers comes by post
        int valid = office.valid(jorg, 3);                           // 1
        int wait = office.waits(0, true);                            // 3: days
        Check.same("missed", 0, missed);
        Check.same("today", 3, today);
        Check.same("got", 3, got);
        Check.same("comes", 11, comes);
        Check.same("valid", 1, valid);
        Check.same("wait", 3, wait);

        put(office, "fee 40; fee many");
        try {
            office.law(5);
        } catch (IllegalArgumentException wrong) {
            int at = office.fault();                                 // 12: the first wrong byte
            Check.same("at", 12, at);
        }
        Check.same("laws", 1, office.count(2));
    }

    private static void linesStandHere() throws IOException {
        Set<String> here = Files.readString(Path.of("src/test/java/ReadmeTest.java")).lines().map(String::strip)
            .collect(Collectors.toSet());
        boolean java = false;
        int shown = 0;
        for (String line : Files.readString(Path.of("README.md")).lines().toList()) {
            if (line.startsWith("```")) java = line.equals("```java");
            else if (java) {
                shown++;
                Check.yes("README.md shows a line that is run here: " + line, here.contains(line.strip()));
            }
        }
        Check.yes("README.md shows how to use the class", shown > 20);
    }

    private static void namesAll() throws IOException {
        String readme = Files.readString(Path.of("README.md"));
        try (var files = Files.list(Path.of("src/test/java"))) {
            files.map(f -> f.getFileName().toString()).filter(f -> f.endsWith("Test.java"))
                .forEach(f -> Check.yes("README.md names " + f, readme.contains("`" + f.replace(".java", "`"))));
        }
        for (var method : PassportOffice.class.getDeclaredMethods()) {
            if (!java.lang.reflect.Modifier.isPublic(method.getModifiers())) continue;
            Check.yes("README.md names " + method.getName(), readme.contains("`" + method.getName() + "("));
        }
    }
}
