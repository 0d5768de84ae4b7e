import java.util.ArrayList;
import java.util.Comparator;
import java.util.HashMap;
import java.util.List;
import java.util.Map;
import java.util.function.Consumer;
import java.util.stream.Collectors;
import java.util.stream.IntStream;

/**
 * The office told anew for the tests, with all that the Java library has. What is missed is found
 * by telling all calls so far to another model.
 */
final class Model {
    /** What a call that throws answers. */
    static final int INDEX = -1000001;
    static final int ARGUMENT = -1000002;
    static final int STATE = -1000003;
    static final int FULL = -1000004;
    static final int NO_SUCH = -1000005;

    private static final class Human {
        int number;
        int born;
        boolean abroad;
        int[] face;
        String name;
    }

    private static final class Plea {
        int number;
        Human human;
        int kind;
        int came;
        int wanted;
        int items;
        boolean urgent;
        int[] due;
        int state;
        int refunded;
        int book = -1;
        int read = -1;
        int got = -1;
        int comes = -1;
        int backs;

        int lacks() {
            return due[0] & (255 - items);
        }
    }

    private final List<Consumer<Model>> log = new ArrayList<>();
    private StringBuilder tape = new StringBuilder();
    private int fault = -1;
    private int today;
    private final List<LawModel> laws = new ArrayList<>();
    private final List<Human> humans = new ArrayList<>();
    private final Map<Integer, Boolean> told = new HashMap<>();
    private final List<Plea> pleas = new ArrayList<>();
    private final List<int[]> books = new ArrayList<>();
    private final List<int[]> lent = new ArrayList<>();
    private final int[] hands = {1, 1, 1, 1};
    private int[] rules = {20, 30, 10, 2, 9};
    private int rule;
    private int blanks;
    private int brokenFrom = 5;
    private int brokenTo = 4;
    private int taken;
    private int returned;
    private int calls;
    private int allCalls;
    private int left;

    private static boolean in(long x, long low, long high) {
        return low <= x && x <= high;
    }

    int feed(int a, int b, int c, int d, int e) {
        if (tape.length() > 380) return -1;
        for (int n : new int[] {a, b, c, d, e}) {
            for (byte x : java.nio.ByteBuffer.allocate(4).putInt(n).array()) tape.append((char) (x & 255));
        }
        return tape.length();
    }

    int end(int n) {
        if (!in(n, 0, tape.length())) return 0;
        tape.setLength(n);
        return 1;
    }

    private String text() {
        String text = tape.toString();
        tape = new StringBuilder();
        return text;
    }

    int law(int from) {
        String text = text();
        if (!in(from, today, 1000)) return ARGUMENT;
        LawModel law = new LawModel(from, text);
        fault = law.fault;
        if (fault >= 0) return ARGUMENT;
        if (laws.size() == 12) return FULL;
        log.add(m -> m.laws.add(law));
        laws.add(law);
        return law.clauses.size();
    }

    int fault() {
        return fault;
    }

    int person(int born, boolean abroad, int a, int b, int c, int d, int e) {
        Human human = new Human();
        human.face = new int[] {a, b, c, d, e};
        if (!in(born, -40000, today) || !IntStream.of(human.face).allMatch(x -> in(x, 0, 99))) return ARGUMENT;
        if (humans.size() == 80) return FULL;
        human.number = humans.size();
        human.born = born;
        human.abroad = abroad;
        humans.add(human);
        log.add(m -> m.humans.add(human));
        return human.number;
    }

    private boolean noHuman(int n) {
        return !in(n, 0, humans.size() - 1);
    }

    private boolean noPlea(int n) {
        return !in(n, 0, pleas.size() - 1);
    }

    int name(int person) {
        String text = text();
        if (noHuman(person)) return INDEX;
        fault = nameFault(text);
        if (fault >= 0) return ARGUMENT;
        humans.get(person).name = Turned.of(text);
        return humans.get(person).name.length();
    }

    private static int nameFault(String text) {
        for (int n = 1; n <= text.length(); n++) {
            String part = text.substring(0, n);
            boolean signs = part.chars().allMatch(c -> !Turned.of(String.valueOf((char) c)).isEmpty());
            if (!signs || n > 24 || part.matches("(?s)[ -].*|.*[ -][ -].*")) return n - 1;
        }
        return text.matches("(?s)|.*[ -]") ? text.length() : -1;
    }

    private static String turned(Human human) {
        return (human.name + "<".repeat(24)).substring(0, 24);
    }

    int sign(int person, int i) {
        if (noHuman(person)) return INDEX;
        return humans.get(person).name == null || !in(i, 0, 23) ? -1 : turned(humans.get(person)).charAt(i);
    }

    int figure(int person) {
        if (noHuman(person)) return INDEX;
        if (humans.get(person).name == null) return -1;
        String name = turned(humans.get(person));
        return IntStream.range(0, 24).map(i -> "731".charAt(i % 3) % 48 * "<.........ABCDEFGHIJKLMNOPQRSTUVWXYZ".indexOf(name.charAt(i))).sum() % 10;
    }

    private static int far(Human a, Human b) {
        return IntStream.range(0, 5).map(i -> (int) Math.pow(a.face[i] - b.face[i], 2)).sum();
    }

    int far(int a, int b) {
        return noHuman(a) || noHuman(b) ? INDEX : far(humans.get(a), humans.get(b));
    }

    int tell(int a, int b, boolean same) {
        if (noHuman(a) || noHuman(b)) return INDEX;
        if (a == b) return ARGUMENT;
        log.add(m -> m.tell(a, b, same));
        told.put(a * 100 + b, same);
        told.put(b * 100 + a, same);
        List<Plea> held = pleas.stream().filter(p -> p.state == 3).collect(Collectors.toList());
        held.forEach(this::check);
        return (int) held.stream().filter(p -> p.state != 3).count();
    }

    private int[] verdict(Human human, int kind, int wanted, boolean urgent) {
        LawModel law = lawOfToday();
        if (law == null) return new int[] {0, 0, 10, 0, 0, -1};
        return law.judge((today - human.born) / 365, wanted - today, valid(human.number, today), human.abroad ? 1 : 0,
            kind == 0 ? 1 : 0, kind == 1 ? 1 : 0, kind == 2 ? 1 : 0, kind == 3 ? 1 : 0, urgent ? 1 : 0);
    }

    private LawModel lawOfToday() {
        int latest = laws.stream().mapToInt(l -> l.from).filter(f -> f <= today).max().orElse(-1);
        return laws.stream().filter(l -> l.from == latest).reduce((a, b) -> b).orElse(null);
    }

    int judge(int person, int kind, int wanted, boolean urgent, int what) {
        if (noHuman(person)) return INDEX;
        if (!in(kind, 0, 3) || !in(wanted, today, 1000)) return ARGUMENT;
        return in(what, 0, 5) ? verdict(humans.get(person), kind, wanted, urgent)[what] : NO_SUCH;
    }

    int ask(int person, int kind, int wanted, int items, boolean urgent) {
        if (noHuman(person)) return INDEX;
        if (!in(kind, 0, 3) || !in(wanted, today, 1000) || !in(items, 0, 255)) return ARGUMENT;
        if (pleas.size() == 120) return FULL;
        log.add(m -> m.ask(person, kind, wanted, items, urgent));
        Plea plea = new Plea();
        plea.number = pleas.size();
        plea.human = humans.get(person);
        plea.kind = kind;
        plea.came = today;
        plea.wanted = wanted;
        plea.items = items;
        plea.urgent = urgent;
        plea.due = verdict(plea.human, kind, wanted, urgent);
        taken += plea.due[1];
        pleas.add(plea);
        return plea.number;
    }

    int give(int asking, int items) {
        if (noPlea(asking)) return INDEX;
        if (!in(items, 0, 255)) return ARGUMENT;
        Plea plea = pleas.get(asking);
        if (plea.state != 1) return STATE;
        log.add(m -> m.give(asking, items));
        plea.items = plea.items | items;
        if (plea.lacks() == 0) plea.state = 0;
        return plea.lacks();
    }

    int hands(int desk, int n) {
        if (!in(desk, 0, 3)) return INDEX;
        if (!in(n, 0, 30)) return ARGUMENT;
        log.add(m -> m.hands(desk, n));
        hands[desk] = n;
        return 0;
    }

    int lend(int desk, int n, int from, int to, int training) {
        if (!in(desk, 0, 3)) return INDEX;
        if (!in(n, 1, 30) || !in(from, today, 1000) || !in(to, from, 1000) || !in(training, 0, 30)) return ARGUMENT;
        if (lent.size() == 20) return -1;
        int[] row = {desk, n, from, to, training};
        log.add(m -> m.lent.add(row));
        lent.add(row);
        return lent.size();
    }

    int units(int desk, int day) {
        if (!in(desk, 0, 3)) return INDEX;
        int units = 8 * hands[desk];
        for (int[] l : lent) {
            if (l[0] == desk && in(day, l[2], l[3])) units += day < l[2] + l[4] ? -2 * l[1] : 8 * l[1];
        }
        return units < 0 ? 0 : units;
    }

    int rules(int... told) {
        boolean right = in(told[0], 1, 200) && in(told[1], 0, 10000) && in(told[2], 0, 1000) && in(told[3], 0, 60) && in(told[4], 0, 60);
        if (!right) return ARGUMENT;
        log.add(m -> m.rules(told));
        rules = told;
        return 0;
    }

    int order(int told) {
        if (!in(told, 0, 2)) return ARGUMENT;
        rule = told;
        log.add(m -> m.order(told));
        return 0;
    }

    int blanks(int n) {
        if (!in(n, 0, 1000) || blanks + n > 10000) return ARGUMENT;
        log.add(m -> m.blanks(n));
        return blanks += n;
    }

    int broken(int from, int to) {
        if (from > to) return ARGUMENT;
        log.add(m -> m.broken(from, to));
        brokenFrom = from;
        brokenTo = to;
        return 0;
    }

    int days(int n) {
        if (!in(n, 0, 60)) return ARGUMENT;
        int until = Math.min(1000, today + n);
        int more = until - today;
        log.add(m -> m.go(more));
        go(more);
        return today;
    }

    private void go(int n) {
        for (int i = 0; i < n; i++) day();
    }

    private static int desk(Plea p) {
        return List.of(0, 2, 4, 5).indexOf(p.state);
    }

    private List<Plea> waiting(int desk) {
        Comparator<Plea> order = Comparator.comparing(p -> !p.urgent);
        if (rule == 2) order = order.thenComparing(p -> (p.items & 64) == 0);
        order = order.thenComparing(p -> rule == 0 ? p.came : p.wanted).thenComparing(p -> p.number);
        return pleas.stream().filter(p -> desk(p) == desk).sorted(order).collect(Collectors.toList());
    }

    private void day() {
        today++;
        pleas.stream().filter(p -> p.state == 6 && p.comes == today).forEach(this::got);
        calls = (int) pleas.stream().filter(p -> p.state < 6 && p.came + rules[0] < today).count() / 3;
        allCalls += calls;
        left = 0;
        for (int desk = 0; desk < 4; desk++) {
            int units = units(desk, today) - (desk == 0 ? calls : 0);
            if (units < 0) units = 0;
            for (Plea p : waiting(desk)) {
                int cost = List.of(p.read < 0 ? 2 : 1, 3 + p.due[3], 6, 1).get(desk);
                boolean stuck = desk == 3 && (blanks == 0 || books.size() == 150 || in(today, brokenFrom, brokenTo));
                if (cost > units || stuck) break;
                units -= cost;
                work(desk, p);
            }
            left += units;
        }
    }

    private void work(int desk, Plea p) {
        if (desk == 0) {
            p.read = today;
            p.state = p.lacks() == 0 ? 2 : 1;
            if (p.state == 1) p.backs++;
        }
        if (desk == 1) check(p);
        if (desk == 2) p.state = 5;
        if (desk == 3) print(p);
    }

    private void check(Plea p) {
        List<Boolean> near = new ArrayList<>();
        for (Human h : humans) {
            if (h != p.human && far(h, p.human) <= rules[1]) near.add(told.get(h.number * 100 + p.human.number));
        }
        if (near.contains(true)) p.state = 9;
        else if (near.contains(null)) p.state = 3;
        else p.state = p.due[4] == 1 || p.due[3] > rules[2] ? 4 : 5;
    }

    private void print(Plea p) {
        blanks--;
        for (int[] b : books) {
            if (p.kind != 3 && b[0] == p.human.number && in(today, b[1], b[2] - 1)) b[2] = today;
        }
        p.book = books.size();
        books.add(new int[] {p.human.number, today, today + 365 * p.due[2], p.number});
        p.state = 6;
        p.comes = today + rules[p.human.abroad ? 4 : 3];
        if (p.comes == today) got(p);
    }

    private void got(Plea p) {
        p.state = 7;
        p.got = today;
        if (p.due[5] >= 0 && today > p.wanted + p.due[5]) {
            p.refunded = 1;
            returned += p.due[1];
        }
    }

    int refuse(int asking) {
        return change(asking, 0, 5, 9);
    }

    int lose(int asking) {
        int answer = change(asking, 6, 6, 8);
        if (answer == 0) {
            int[] b = books.get(pleas.get(asking).book);
            b[2] = Math.min(b[2], today);
        }
        return answer;
    }

    int again(int asking) {
        int answer = change(asking, 8, 8, 5);
        if (answer == 0) pleas.get(asking).comes = -1;
        return answer;
    }

    private int change(int asking, int low, int high, int state) {
        if (noPlea(asking)) return INDEX;
        if (!in(pleas.get(asking).state, low, high)) return STATE;
        log.add(m -> {
            if (state == 9) m.refuse(asking);
            if (state == 8) m.lose(asking);
            if (state == 5) m.again(asking);
        });
        pleas.get(asking).state = state;
        return 0;
    }

    int led(int asking, int what) {
        if (noPlea(asking)) return INDEX;
        Plea p = pleas.get(asking);
        int[] all = {p.state, p.human.number, p.kind, p.came, p.wanted, p.items, p.lacks(), p.due[1], p.refunded, p.due[3], p.due[2],
            p.book, p.read, p.got, p.comes, p.backs};
        return in(what, 0, 15) ? all[what] : NO_SUCH;
    }

    int queue(int desk) {
        return in(desk, 0, 3) ? waiting(desk).size() : INDEX;
    }

    int ahead(int asking) {
        if (noPlea(asking)) return INDEX;
        return desk(pleas.get(asking)) < 0 ? -1 : waiting(desk(pleas.get(asking))).indexOf(pleas.get(asking));
    }

    int booklet(int booklet, int what) {
        if (!in(booklet, 0, books.size() - 1)) return INDEX;
        return in(what, 0, 3) ? books.get(booklet)[what] : NO_SUCH;
    }

    int valid(int person, int day) {
        if (noHuman(person)) return INDEX;
        return (int) books.stream().filter(b -> b[0] == person && b[1] <= day && b[2] > day).count();
    }

    int missed(int told, int n) {
        if (!in(told, 0, 2) || !in(n, 0, 60)) return ARGUMENT;
        Model other = new Model();
        log.forEach(call -> call.accept(other));
        other.rule = told;
        other.go(n);
        return (int) pleas.stream().filter(p -> p.state < 7 && p.wanted <= today + n)
            .filter(p -> other.pleas.get(p.number).state != 7 || other.pleas.get(p.number).got > p.wanted).count();
    }

    int waits(int kind, boolean most) {
        if (!in(kind, 0, 3)) return ARGUMENT;
        List<Plea> got = pleas.stream().filter(p -> p.kind == kind && p.state == 7)
            .sorted(Comparator.comparing((Plea p) -> -p.got).thenComparing(p -> -p.number)).collect(Collectors.toList());
        List<Integer> waits = got.stream().limit(20).map(p -> p.got - p.came).sorted().collect(Collectors.toList());
        int out = waits.size() / 10;
        List<Integer> span = waits.subList(out, waits.size() - out);
        return span.isEmpty() ? -1 : span.get(most ? span.size() - 1 : 0);
    }

    int ends(int from, int to) {
        return (int) books.stream().filter(b -> in(b[2], from, to)).count();
    }

    private int inState(int low, int high) {
        return (int) pleas.stream().filter(p -> in(p.state, low, high)).count();
    }

    int count(int what) {
        int[] all = {today, humans.size(), laws.size(), pleas.size(), inState(0, 5), inState(7, 7), inState(3, 3), books.size(), blanks,
            taken, returned, calls, allCalls, lent.size(), left, lawOfToday() == null ? 0 : lawOfToday().clauses.size(),
            inState(9, 9), inState(8, 8)};
        return in(what, 0, 17) ? all[what] : -1;
    }
}
