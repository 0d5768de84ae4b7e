import java.util.ArrayDeque;
import java.util.ArrayList;
import java.util.Deque;
import java.util.List;
import java.util.regex.Matcher;
import java.util.regex.Pattern;

/**
 * Laws told anew for the tests, in another way than the program's: a list of things, an automaton
 * with a stack that finds the first one that cannot stand, and a judging that splits by or and and.
 */
final class LawModel {
    private static final Pattern THING = Pattern.compile("[a-z]+|[0-9]+|[^ ]", Pattern.DOTALL);
    private static final List<String> ITEMS = List.of("deed", "photo", "consent", "both", "oldbook", "report", "ticket", "change");
    private static final List<String> FACTS = List.of("age", "wanted", "valid", "abroad", "first", "renew", "lost", "second", "urgent");

    private enum Awaits { CLAUSE, ITEM, NUMBER, END_OF_BODY, ATOM, COMPARE_OR_END, BOUND, END_OF_ATOM }

    final int from;
    final List<List<String>> clauses = new ArrayList<>();
    int fault = -1;

    LawModel(int from, String text) {
        this.from = from;
        List<String> things = new ArrayList<>();
        List<Integer> begins = new ArrayList<>();
        Matcher m = THING.matcher(text);
        while (m.find()) {
            things.add(m.group());
            begins.add(m.start());
        }
        if (things.isEmpty()) return;
        int bad = firstBad(things);
        if (bad >= 0) {
            fault = bad < things.size() ? begins.get(bad) : text.length();
            return;
        }
        clauses.add(new ArrayList<>());
        for (String thing : things) {
            if (thing.equals(";")) clauses.add(new ArrayList<>());
            else clauses.get(clauses.size() - 1).add(thing);
        }
    }

    private static int firstBad(List<String> things) {
        Awaits awaits = Awaits.CLAUSE;
        Deque<Character> open = new ArrayDeque<>();
        int begun = 0;
        for (int i = 0; i < things.size(); i++) {
            String thing = things.get(i);
            Awaits next = null;
            switch (awaits) {
                case CLAUSE:
                    if (begun == 16) return i;
                    begun++;
                    if (thing.equals("need")) next = Awaits.ITEM;
                    else if (thing.equals("see")) next = Awaits.END_OF_BODY;
                    else if (List.of("fee", "back", "years", "risk").contains(thing)) next = Awaits.NUMBER;
                    break;
                case ITEM:
                    if (ITEMS.contains(thing)) next = Awaits.END_OF_BODY;
                    break;
                case NUMBER:
                    if (thing.matches("[0-9]{1,4}")) next = Awaits.END_OF_BODY;
                    break;
                case END_OF_BODY:
                    if (thing.equals(";")) next = Awaits.CLAUSE;
                    else if (thing.equals("if")) next = Awaits.ATOM;
                    break;
                case ATOM:
                    if (thing.equals("not") || thing.equals("(")) {
                        if (open.size() < 8) next = Awaits.ATOM;
                        open.push(thing.charAt(0));
                    } else if (FACTS.contains(thing)) next = Awaits.COMPARE_OR_END;
                    break;
                case BOUND:
                    if (thing.matches("[0-9]{1,4}")) next = Awaits.END_OF_ATOM;
                    break;
                default:
                    if (awaits == Awaits.COMPARE_OR_END && (thing.equals("<") || thing.equals(">"))) {
                        next = Awaits.BOUND;
                        break;
                    }
                    while (!open.isEmpty() && open.peek() == 'n') open.pop();
                    if (thing.equals("and") || thing.equals("or")) next = Awaits.ATOM;
                    else if (thing.equals(")") && !open.isEmpty()) {
                        open.pop();
                        next = Awaits.END_OF_ATOM;
                    } else if (thing.equals(";") && open.isEmpty()) next = Awaits.CLAUSE;
            }
            if (next == null) return i;
            awaits = next;
        }
        while (!open.isEmpty() && open.peek() == 'n') open.pop();
        boolean mayEnd = awaits == Awaits.END_OF_BODY || awaits == Awaits.COMPARE_OR_END || awaits == Awaits.END_OF_ATOM;
        return mayEnd && open.isEmpty() ? -1 : things.size();
    }

    /** Needs, fee, years, risk, see, back. */
    int[] judge(int... facts) {
        int[] due = {0, 0, -1, 0, 0, -1};
        for (List<String> clause : clauses) {
            int at = clause.indexOf("if");
            if (at >= 0 && !holds(clause.subList(at + 1, clause.size()), facts)) continue;
            String told = clause.size() > 1 ? clause.get(1) : "";
            switch (clause.get(0)) {
                case "need": due[0] |= 1 << ITEMS.indexOf(told); break;
                case "fee": due[1] += Integer.parseInt(told); break;
                case "years": due[2] = Math.max(due[2], Integer.parseInt(told)); break;
                case "risk": due[3] += Integer.parseInt(told); break;
                case "see": due[4] = 1; break;
                default: due[5] = due[5] < 0 ? Integer.parseInt(told) : Math.min(due[5], Integer.parseInt(told));
            }
        }
        if (due[2] < 0) due[2] = 10;
        return due;
    }

    private static boolean holds(List<String> cond, int[] facts) {
        for (String word : List.of("or", "and")) {
            int deep = 0;
            for (int i = cond.size() - 1; i >= 0; i--) {
                if (cond.get(i).equals(")")) deep++;
                if (cond.get(i).equals("(")) deep--;
                if (deep == 0 && cond.get(i).equals(word)) {
                    boolean left = holds(cond.subList(0, i), facts);
                    boolean right = holds(cond.subList(i + 1, cond.size()), facts);
                    return word.equals("or") ? left || right : left && right;
                }
            }
        }
        if (cond.get(0).equals("not")) return !holds(cond.subList(1, cond.size()), facts);
        if (cond.get(0).equals("(")) return holds(cond.subList(1, cond.size() - 1), facts);
        int value = facts[FACTS.indexOf(cond.get(0))];
        if (cond.size() == 1) return value != 0;
        int bound = Integer.parseInt(cond.get(2));
        return cond.get(1).equals("<") ? value < bound : value > bound;
    }
}
