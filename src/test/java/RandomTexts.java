import java.util.function.IntUnaryOperator;

/** Texts of laws and names, right ones and spoilt ones. */
final class RandomTexts {
    private static final String[] ITEMS = "deed photo consent both oldbook report ticket change".split(" ");
    private static final String[] FACTS = "age wanted valid abroad first renew lost second urgent".split(" ");
    private static final String[] THINGS = ("need fee back years risk see if and or not ( ) < > ; 5 9999 12345 deed age urgent x A "
        + "= \t feed no").split(" ");

    private final IntUnaryOperator pick;

    private RandomTexts(IntUnaryOperator pick) {
        this.pick = pick;
    }

    static String law(IntUnaryOperator pick, boolean spoilt) {
        String text = new RandomTexts(pick).clauses();
        if (!spoilt) return text;
        int at = pick.applyAsInt(text.length() + 1);
        switch (pick.applyAsInt(4)) {
            case 0: return text.substring(0, at);
            case 1: return cut(text.substring(0, at) + THINGS[pick.applyAsInt(THINGS.length)] + text.substring(at));
            case 2: return cut(text.substring(0, at) + " " + THINGS[pick.applyAsInt(THINGS.length)] + " " + text.substring(at));
            default: return at < text.length() ? text.substring(0, at) + text.substring(at + 1) : cut(text + (char) pick.applyAsInt(256));
        }
    }

    private static String cut(String text) {
        return text.substring(0, Math.min(400, text.length()));
    }

    private boolean coin(int n) {
        return pick.applyAsInt(n) == 0;
    }

    private String clauses() {
        StringBuilder text = new StringBuilder(coin(9) ? "  " : "");
        int n = coin(8) ? 14 + pick.applyAsInt(4) : pick.applyAsInt(7);
        for (int i = 0; i < n; i++) {
            String clause = clause(n > 10 ? 0 : 1);
            if (text.length() + clause.length() + 1 > 398) break;
            if (text.toString().trim().length() > 0) text.append(coin(3) ? " ; " : ";");
            text.append(clause);
        }
        return text.append(coin(9) ? "  " : "").toString();
    }

    private String clause(int longest) {
        String clause;
        switch (pick.applyAsInt(6)) {
            case 0: clause = "need " + ITEMS[pick.applyAsInt(8)]; break;
            case 1: clause = "fee " + number(200); break;
            case 2: clause = "back " + number(6); break;
            case 3: clause = "years" + (coin(2) ? "" : " ") + number(4); break;
            case 4: clause = "risk " + number(coin(4) ? 60 : 5); break;
            default: clause = "see";
        }
        return longest == 0 || coin(3) ? clause : clause + " if " + cond(coin(4) ? 9 : 3);
    }

    private String number(int n) {
        return (coin(9) ? "00" : "") + pick.applyAsInt(n);
    }

    private String cond(int deep) {
        StringBuilder text = new StringBuilder(atom(deep));
        for (int i = 0; i < 3 && coin(3); i++) text.append(coin(2) ? " and " : " or ").append(atom(deep - 1));
        return text.toString();
    }

    private String atom(int deep) {
        if (deep > 0 && coin(deep > 3 ? 2 : 4)) return "not " + atom(deep - 1);
        if (deep > 0 && coin(deep > 3 ? 2 : 4)) return (coin(3) ? " (" : "(") + cond(deep - 1) + ")";
        int fact = pick.applyAsInt(FACTS.length);
        if (coin(2) && fact > 2) return FACTS[fact];
        return FACTS[fact] + (coin(2) ? "<" : " > ") + pick.applyAsInt(fact == 0 ? 100 : fact == 1 ? 12 : 3);
    }

    static String name(IntUnaryOperator pick) {
        String signs = "abzABZ -\u00c4\u00e4\u00d6\u00df\u00e5\u00d1\u00e9\u00e7kLmN";
        StringBuilder text = new StringBuilder();
        int n = 1 + pick.applyAsInt(pick.applyAsInt(3) == 0 ? 27 : 12);
        for (int i = 0; i < n; i++) {
            boolean odd = pick.applyAsInt(60) == 0;
            text.append(odd ? (char) pick.applyAsInt(256) : signs.charAt(pick.applyAsInt(signs.length())));
        }
        return text.toString();
    }
}
