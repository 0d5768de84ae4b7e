import java.util.Map;

/** How signs of a name are turned, told anew for the tests. */
final class Turned {
    private static final Map<String, String> GROUPS = Map.of(
        "\u00c4\u00e4\u00c6\u00e6", "AE",
        "\u00d6\u00f6\u00d8\u00f8", "OE",
        "\u00dc\u00fc", "UE",
        "\u00df", "SS",
        "\u00c5\u00e5", "AA",
        "\u00d1\u00f1", "N",
        "\u00c9\u00e9\u00c8\u00e8", "E",
        "\u00c7\u00e7", "C",
        " -", "<");

    private Turned() {
    }

    /** A text turned; signs that may not stand in a name are left out. */
    static String of(String text) {
        StringBuilder turned = new StringBuilder();
        for (char c : text.toCharArray()) {
            if (String.valueOf(c).matches("[a-zA-Z]")) turned.append(String.valueOf(c).toUpperCase(java.util.Locale.ROOT));
            for (Map.Entry<String, String> e : GROUPS.entrySet()) {
                if (e.getKey().indexOf(c) >= 0) turned.append(e.getValue());
            }
        }
        return turned.toString();
    }
}
