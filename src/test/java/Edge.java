import java.io.IOException;
import java.io.UncheckedIOException;
import java.nio.file.Files;
import java.nio.file.Path;
import java.util.regex.Pattern;

/**
 * Tests of boundary cases, each headed by the words of the document that name the case. The words must stand in
 * ../shared/DOC.md, and what stands there without a test must name no boundary: so none can be forgotten.
 */
final class Edge {
    private static final Pattern BOUNDARY = Pattern.compile(
        "[0-9]|\\b(at most|at first|at least|[Nn]one|NONE|both|rounded|more|fewer|above|below|beyond|ahead|behind|"
        + "first|last|latest|least|greatest|alone|nothing|all|never|Exception)\\b");
    private static final String DOCUMENT = promises();
    private static final boolean[] TOLD = new boolean[DOCUMENT.length()];

    private Edge() {
    }

    private static String promises() {
        try {
            String all = Files.readString(Path.of("../shared/DOC.md"));
            return all.substring(all.indexOf("## Terms"), all.indexOf("## Not promised"))
                .replaceAll("(?m)^##.*$|^```.*$", " ")
                .replaceAll("`[^`]*`", " ")
                .replaceAll("==== \\d\\.", " ")
                .replaceAll("\\s+", " ");
        } catch (IOException e) {
            throw new UncheckedIOException(e);
        }
    }

    /** The test of what the document says in these words. */
    static void of(String words, Runnable test) {
        Check.under(words);
        int at = DOCUMENT.indexOf(words);
        Check.yes("that the document says so", at >= 0);
        for (; at >= 0; at = DOCUMENT.indexOf(words, at + 1)) {
            for (int i = at; i < at + words.length(); i++) TOLD[i] = true;
        }
        test.run();
        Check.under("");
    }

    /** No part of the document that names a boundary is without a test. */
    static void nothingIsLeftOut() {
        int begin = 0;
        for (int i = 0; i <= DOCUMENT.length(); i++) {
            if (i < DOCUMENT.length() && !TOLD[i]) continue;
            String part = DOCUMENT.substring(begin, i);
            Check.yes("a test of: " + part, !BOUNDARY.matcher(part).find());
            begin = i + 1;
        }
    }
}
