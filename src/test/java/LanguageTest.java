import java.io.IOException;
import java.nio.file.Files;
import java.nio.file.Path;
import java.util.List;
import java.util.regex.Pattern;

/** Rules of ../shared/LANGUAGE.md that can be seen in the source. */
final class LanguageTest {
    public static void main(String[] args) throws IOException {
        String source = Files.readString(Path.of("src/main/java/PassportOffice.java"));
        List<String> imports = List.of("java.util.ArrayList", "java.util.Arrays", "java.util.NoSuchElementException");
        source.lines().filter(l -> l.startsWith("import")).forEach(l ->
            Check.yes(l, imports.contains(l.substring(7, l.length() - 1))));
        String code = source.replaceAll("(?s)/\\*.*?\\*/", "").replaceAll("//.*", "").replaceAll("\"[^\"\n]*\"", "\"\"");
        for (String word : List.of("package", "protected", "try", "catch", "finally", "synchronized", "assert", "instanceof",
                "->", "::", "volatile", "native", "Object", "System.out", "Exact", "hashCode", "toString", "Integer", "Long", "List<int")) {
            boolean word0 = word.matches("\\w+");
            Check.yes("no " + word, !Pattern.compile(word0 ? "\\b" + word + "\\b" : Pattern.quote(word)).matcher(code).find());
        }
        Check.yes("Math: over int and long alone", !Pattern.compile("Math\\.(?!min|max|abs)").matcher(code).find());
        Check.yes("Arrays: copyOf and fill alone", !Pattern.compile("Arrays\\.(?!copyOf\\b|copyOfRange\\b|fill\\b)").matcher(code).find());
        Check.yes("ascii alone", source.chars().allMatch(c -> c < 127));
        methodsAreShort(source);
        Check.close();
    }

    private static void methodsAreShort(String source) {
        int begun = 1;
        int number = 0;
        String indent = "";
        for (String line : source.lines().toList()) {
            number++;
            boolean control = line.matches(" +(if|for|while|switch|else|do|return|throw)\\b.*");
            if (!control && line.matches("( {4}| {8})[A-Za-z][\\w<> ]*\\(.*[^;]")) {
                begun = number;
                indent = line.replaceAll("\\S.*", "");
            }
            if (line.equals(indent + "}")) Check.yes("the method up to line " + number + " is short", number - begun < 60);
            Check.yes("line " + number + " is not long", line.length() <= 110);
        }
    }
}
