import java.util.ArrayList;
import java.util.Arrays;
import java.util.NoSuchElementException;

/** A passport office in spring: laws, people, askings, desks, booklets and fees. */
public final class PassportOffice {
    public static final int NONE = -1;

    private static final int MOST_BYTES = 400;
    private static final int MOST_LAWS = 12;
    private static final int MOST_PEOPLE = 80;
    private static final int MOST_ASKINGS = 120;
    private static final int MOST_LENT = 20;
    private static final int MOST_BLANKS = 10000;
    private static final int LAST_DAY = 1000;
    private static final int FIRST_BIRTH = -40000;
    private static final int KINDS = 4;
    private static final int ORDERS = 3;
    private static final int WAITS_LOOKED_AT = 20;
    /** No wait is as long as this. */
    private static final int KEPT_FOR_A_WAIT = 1024;

    private final int[] tape = new int[MOST_BYTES];
    private int tapeLength = 0;
    private int fault = NONE;
    private final ArrayList<Law> laws = new ArrayList<Law>();
    private final Law noLaw = new Law(NONE, new int[0]);
    private final People people = new People();
    private final Desks desks = new Desks();
    private final Rules rules = new Rules();
    private final Office office = new Office(people, desks, rules);
    // missed() tries the days out here, so that nothing of the true office changes
    private final Office trial = new Office(people, desks, rules);

    public PassportOffice() {
    }

    // ---- texts: the tape, laws, names

    public int feed(int a, int b, int c, int d, int e) {
        if (tapeLength + 20 > MOST_BYTES) return NONE;
        putBytes(a);
        putBytes(b);
        putBytes(c);
        putBytes(d);
        putBytes(e);
        return tapeLength;
    }

    private void putBytes(int number) {
        for (int shift = 24; shift >= 0 && tapeLength < MOST_BYTES; shift -= 8) {
            tape[tapeLength] = (number >>> shift) & 255;
            tapeLength++;
        }
    }

    public boolean end(int n) {
        if (n < 0 || n > tapeLength) return false;
        tapeLength = n;
        return true;
    }

    private int[] useTapeUp() {
        int[] text = Arrays.copyOf(tape, tapeLength);
        tapeLength = 0;
        return text;
    }

    public int law(int from) throws IllegalArgumentException, UnsupportedOperationException {
        int[] text = useTapeUp();
        demand(from >= office.today && from <= LAST_DAY);
        Law told = new Law(from, text);
        told.verdictOn(new int[Law.FACTS]);
        fault = told.firstWrong;
        demand(fault == NONE);
        if (laws.size() >= MOST_LAWS) throw new UnsupportedOperationException();
        laws.add(told);
        return told.clauses;
    }

    public int fault() {
        return fault;
    }

    private Law lawOfToday() {
        Law latest = noLaw;
        for (int i = 0; i < laws.size(); i++) {
            Law law = laws.get(i);
            if (law.from <= office.today && law.from >= latest.from) latest = law;
        }
        return latest;
    }

    // ---- people

    public int person(int born, boolean abroad, int a, int b, int c, int d, int e)
            throws IllegalArgumentException, UnsupportedOperationException {
        demand(born >= FIRST_BIRTH && born <= office.today);
        demand(isFace(a) && isFace(b) && isFace(c) && isFace(d) && isFace(e));
        if (people.all.size() >= MOST_PEOPLE) throw new UnsupportedOperationException();
        int[] face = {a, b, c, d, e};
        Person one = new Person(people.all.size(), born, abroad, face);
        people.all.add(one);
        return one.number;
    }

    private static boolean isFace(int number) {
        return number >= 0 && number <= 99;
    }

    public int name(int person) throws IndexOutOfBoundsException, IllegalArgumentException {
        int[] text = useTapeUp();
        Person one = personAt(person);
        fault = Name.firstWrong(text);
        demand(fault == NONE);
        one.name = new Name(text);
        return one.name.length;
    }

    public int sign(int person, int i) throws IndexOutOfBoundsException {
        Name name = personAt(person).name;
        if (name == null || i < 0 || i >= Name.SIGNS) return NONE;
        return name.signs[i];
    }

    public int figure(int person) throws IndexOutOfBoundsException {
        Name name = personAt(person).name;
        return name == null ? NONE : name.checkFigure();
    }

    public int far(int a, int b) throws IndexOutOfBoundsException {
        Person one = personAt(a);
        return one.farFrom(personAt(b));
    }

    public int tell(int a, int b, boolean same)
            throws IndexOutOfBoundsException, IllegalArgumentException {
        Person one = personAt(a);
        Person other = personAt(b);
        demand(a != b);
        one.putTold(other, same ? People.SAME : People.OTHER);
        other.putTold(one, same ? People.SAME : People.OTHER);
        return office.checkHeldAgain();
    }

    // ---- askings

    public int judge(int person, int kind, int wanted, boolean urgent, int what)
            throws IndexOutOfBoundsException, IllegalArgumentException, NoSuchElementException {
        Person one = personAt(person);
        demand(isKind(kind) && isWanted(wanted));
        Verdict verdict = lawOfToday().verdictOn(factsOf(one, kind, wanted, urgent));
        switch (what) {
            case 0: return verdict.needs;
            case 1: return verdict.fee;
            case 2: return verdict.validYears();
            case 3: return verdict.risk;
            case 4: return verdict.see ? 1 : 0;
            case 5: return verdict.back;
            default: throw new NoSuchElementException();
        }
    }

    private static boolean isKind(int kind) {
        return kind >= 0 && kind < KINDS;
    }

    private boolean isWanted(int day) {
        return day >= office.today && day <= LAST_DAY;
    }

    private static boolean isItems(int items) {
        return items >= 0 && items <= 255;
    }

    /** What a law may ask of an asking that comes today, in the order of Law.FACT_WORDS. */
    private int[] factsOf(Person one, int kind, int wanted, boolean urgent) {
        int[] facts = {
            (office.today - one.born) / 365,
            wanted - office.today,
            office.validOf(one, office.today),
            one.abroad ? 1 : 0,
            kind == Asking.FIRST ? 1 : 0,
            kind == Asking.RENEW ? 1 : 0,
            kind == Asking.LOST_ONE ? 1 : 0,
            kind == Asking.SECOND ? 1 : 0,
            urgent ? 1 : 0
        };
        return facts;
    }

    public int ask(int person, int kind, int wanted, int items, boolean urgent)
            throws IndexOutOfBoundsException, IllegalArgumentException, UnsupportedOperationException {
        Person one = personAt(person);
        demand(isKind(kind) && isWanted(wanted) && isItems(items));
        if (office.askings.size() >= MOST_ASKINGS) throw new UnsupportedOperationException();
        Verdict verdict = lawOfToday().verdictOn(factsOf(one, kind, wanted, urgent));
        Asking asking =
            new Asking(office.askings.size(), one, kind, office.today, wanted, urgent, verdict);
        asking.items = items;
        office.askings.add(asking);
        office.feesTaken += verdict.fee;
        return asking.number;
    }

    public int give(int asking, int items)
            throws IndexOutOfBoundsException, IllegalArgumentException, IllegalStateException {
        Asking one = askingAt(asking);
        demand(isItems(items));
        allow(one.state == Asking.BACK);
        one.items |= items;
        if (one.lackingItems() == 0) one.state = Asking.TO_READ;
        return one.lackingItems();
    }

    public void refuse(int asking) throws IndexOutOfBoundsException, IllegalStateException {
        Asking one = askingAt(asking);
        allow(one.isOpen());
        one.state = Asking.REFUSED;
    }

    public void lose(int asking) throws IndexOutOfBoundsException, IllegalStateException {
        Asking one = askingAt(asking);
        allow(one.state == Asking.IN_POST);
        one.state = Asking.LOST;
        office.endBooklet(one.booklet);
    }

    public void again(int asking) throws IndexOutOfBoundsException, IllegalStateException {
        Asking one = askingAt(asking);
        allow(one.state == Asking.LOST);
        one.state = Asking.TO_PRINT;
        one.comes = NONE;
    }

    public int led(int asking, int what) throws IndexOutOfBoundsException, NoSuchElementException {
        Asking one = askingAt(asking);
        switch (what) {
            case 0: return one.state;
            case 1: return one.person.number;
            case 2: return one.kind;
            case 3: return one.came;
            case 4: return one.wanted;
            case 5: return one.items;
            case 6: return one.lackingItems();
            case 7: return one.verdict.fee;
            case 8: return one.feeBack ? 1 : 0;
            case 9: return one.verdict.risk;
            case 10: return one.verdict.validYears();
            case 11: return one.booklet;
            case 12: return one.read;
            case 13: return one.got;
            case 14: return one.comes;
            case 15: return one.backs;
            default: throw new NoSuchElementException();
        }
    }

    // ---- desks and days

    public void hands(int desk, int n) throws IndexOutOfBoundsException, IllegalArgumentException {
        checkDesk(desk);
        demand(n >= 0 && n <= 30);
        desks.setHands(desk, n);
    }

    public int lend(int desk, int n, int from, int to, int training)
            throws IndexOutOfBoundsException, IllegalArgumentException {
        checkDesk(desk);
        demand(n >= 1 && n <= 30);
        demand(from >= office.today && to >= from && to <= LAST_DAY);
        demand(training >= 0 && training <= 30);
        if (desks.lent.size() >= MOST_LENT) return NONE;
        desks.lent.add(new Lent(desk, n, from, to, training));
        return desks.lent.size();
    }

    public int units(int desk, int day) throws IndexOutOfBoundsException {
        checkDesk(desk);
        return desks.unitsOn(desk, day);
    }

    public void rules(int patience, int limit, int doubt, int home, int abroad)
            throws IllegalArgumentException {
        demand(patience >= 1 && patience <= 200);
        demand(limit >= 0 && limit <= 10000);
        demand(doubt >= 0 && doubt <= 1000);
        demand(home >= 0 && home <= 60 && abroad >= 0 && abroad <= 60);
        rules.patience = patience;
        rules.limit = limit;
        rules.doubt = doubt;
        rules.home = home;
        rules.abroad = abroad;
    }

    public void order(int rule) throws IllegalArgumentException {
        demand(isOrder(rule));
        office.order = rule;
    }

    private static boolean isOrder(int rule) {
        return rule >= 0 && rule < ORDERS;
    }

    public int blanks(int n) throws IllegalArgumentException {
        demand(n >= 0 && n <= 1000 && office.blanks + n <= MOST_BLANKS);
        office.blanks += n;
        return office.blanks;
    }

    public void broken(int from, int to) throws IllegalArgumentException {
        demand(from <= to);
        rules.brokenFrom = from;
        rules.brokenTo = to;
    }

    public int days(int n) throws IllegalArgumentException {
        demand(n >= 0 && n <= 60);
        for (int i = 0; i < n && office.today < LAST_DAY; i++) office.passDay();
        return office.today;
    }

    public int queue(int desk) throws IndexOutOfBoundsException {
        checkDesk(desk);
        return office.countIn(Desks.STATE_AT[desk]);
    }

    public int ahead(int asking) throws IndexOutOfBoundsException {
        return office.countAhead(askingAt(asking));
    }

    // ---- booklets, waits, counts

    public int booklet(int booklet, int what)
            throws IndexOutOfBoundsException, NoSuchElementException {
        Booklet one = office.bookletAt(booklet);
        if (one == null) throw new IndexOutOfBoundsException();
        switch (what) {
            case 0: return one.person;
            case 1: return one.first;
            case 2: return one.end;
            case 3: return one.asking;
            default: throw new NoSuchElementException();
        }
    }

    public int valid(int person, int day) throws IndexOutOfBoundsException {
        return office.validOf(personAt(person), day);
    }

    public int missed(int rule, int n) throws IllegalArgumentException {
        demand(isOrder(rule) && n >= 0 && n <= 60);
        trial.copyFrom(office);
        trial.order = rule;
        for (int i = 0; i < n; i++) trial.passDay();
        int missed = 0;
        for (int i = 0; i < office.askings.size() && i < trial.askings.size(); i++) {
            Asking now = office.askings.get(i);
            boolean counts = now.state <= Asking.IN_POST && now.wanted <= office.today + n;
            if (counts && !trial.askings.get(i).isGotInTime()) missed++;
        }
        return missed;
    }

    public int waits(int kind, boolean most) throws IllegalArgumentException {
        demand(isKind(kind));
        int[] waits = latestWaits(kind);
        int leftOut = waits.length / 10;
        int place = most ? waits.length - 1 - leftOut : leftOut;
        return place >= 0 && place < waits.length ? waits[place] : NONE;
    }

    /** The waits of the last askings of a kind that were got, by size. */
    private int[] latestWaits(int kind) {
        // a key is the day, the number and the wait in one: sorting keys sorts by the day, then by number
        int[] keys = new int[office.askings.size()];
        int n = 0;
        for (int i = 0; i < keys.length && n < keys.length; i++) {
            Asking one = office.askings.get(i);
            if (one.kind == kind && one.state == Asking.GOT) {
                keys[n] = (one.got * MOST_ASKINGS + i) * KEPT_FOR_A_WAIT + one.waitedDays();
                n++;
            }
        }
        sort(keys, n);
        int[] waits = Arrays.copyOfRange(keys, Math.max(0, n - WAITS_LOOKED_AT), n);
        for (int i = 0; i < waits.length; i++) waits[i] %= KEPT_FOR_A_WAIT;
        sort(waits, waits.length);
        return waits;
    }

    private static void sort(int[] row, int n) {
        for (int i = 1; i < n && i < row.length; i++) {
            int number = row[i];
            int place = i;
            for (; place > 0 && row[place - 1] > number; place--) row[place] = row[place - 1];
            row[place] = number;
        }
    }

    public int ends(int from, int to) {
        return office.countEnds(from, to);
    }

    public int count(int what) {
        switch (what) {
            case 0: return office.today;
            case 1: return people.all.size();
            case 2: return laws.size();
            case 3: return office.askings.size();
            case 4: return office.countOpen();
            case 5: return office.countIn(Asking.GOT);
            case 6: return office.countIn(Asking.HELD);
            case 7: return office.printed;
            case 8: return office.blanks;
            case 9: return office.feesTaken;
            case 10: return office.feesBack;
            case 11: return office.calls;
            case 12: return office.allCalls;
            case 13: return desks.lent.size();
            case 14: return office.unitsLeft;
            case 15: return lawOfToday().clauses;
            case 16: return office.countIn(Asking.REFUSED);
            case 17: return office.countIn(Asking.LOST);
            default: return NONE;
        }
    }

    // ---- what the calls demand

    private static void demand(boolean right) {
        if (!right) throw new IllegalArgumentException();
    }

    private static void allow(boolean stateIsRight) {
        if (!stateIsRight) throw new IllegalStateException();
    }

    private static void checkDesk(int desk) {
        if (desk < 0 || desk >= Desks.COUNT) throw new IndexOutOfBoundsException();
    }

    private Person personAt(int number) {
        if (number < 0 || number >= people.all.size()) throw new IndexOutOfBoundsException();
        return people.all.get(number);
    }

    private Asking askingAt(int number) {
        if (number < 0 || number >= office.askings.size()) throw new IndexOutOfBoundsException();
        return office.askings.get(number);
    }

    /** A law's text, and the one walk through it that both finds what is wrong and judges. */
    private static final class Law {
        static final int FACTS = 9;
        private static final int MOST_CLAUSES = 16;
        private static final int DEEPEST = 8;
        private static final int MOST_DIGITS = 4;

        private static final String CLAUSE_WORDS = "need fee back years risk see";
        private static final String ITEM_WORDS =
            "deed photo consent both oldbook report ticket change";
        private static final String FACT_WORDS =
            "age wanted valid abroad first renew lost second urgent";

        private static final int THE_END = 0;
        private static final int WORD = 1;
        private static final int NUMBER = 2;
        private static final int SIGN = 3;
        private static final int WRONG = 4;

        final int from;
        int clauses = 0;
        int firstWrong = NONE;
        private final int[] text;
        private int[] facts = new int[FACTS];
        private Verdict verdict = new Verdict();
        // the thing that is looked at goes from begin up to end, that one not
        private int thing = THE_END;
        private int begin = 0;
        private int end = 0;

        Law(int from, int[] text) {
            this.from = from;
            this.text = text;
        }

        Verdict verdictOn(int[] factsOfOne) {
            facts = factsOfOne;
            verdict = new Verdict();
            clauses = 0;
            firstWrong = NONE;
            end = 0;
            advance();
            boolean more = thing != THE_END;
            for (int i = 0; more && i < MOST_CLAUSES; i++) {
                readClause();
                clauses++;
                more = isSign(';');
                if (more) advance();
            }
            if (more || thing != THE_END) fail();
            return verdict;
        }

        private void fail() {
            if (firstWrong == NONE) firstWrong = begin;
            thing = WRONG;
        }

        private void advance() {
            if (firstWrong != NONE) return;
            begin = end;
            while (begin < text.length && text[begin] == ' ') begin++;
            end = begin;
            if (begin >= text.length) {
                thing = THE_END;
                return;
            }
            thing = thingOf(text[begin]);
            end++;
            if (thing == SIGN) return;
            while (end < text.length && thingOf(text[end]) == thing) end++;
        }

        private static int thingOf(int sign) {
            if (sign >= 'a' && sign <= 'z') return WORD;
            return sign >= '0' && sign <= '9' ? NUMBER : SIGN;
        }

        private boolean isSign(int sign) {
            return thing == SIGN && begin < text.length && text[begin] == sign;
        }

        private boolean isWord(String word) {
            return numberAmong(word) == 0;
        }

        /** Which of some words (with a blank between them) stands here; NONE if it is none. */
        private int numberAmong(String words) {
            if (thing != WORD) return NONE;
            int number = 0;
            int at = begin;
            boolean alike = true;
            for (int i = 0; i < words.length(); i++) {
                char sign = words.charAt(i);
                if (sign == ' ') {
                    if (alike && at == end) return number;
                    number++;
                    at = begin;
                    alike = true;
                } else {
                    alike = alike && at < end && at < text.length && text[at] == sign;
                    at++;
                }
            }
            return alike && at == end ? number : NONE;
        }

        private void readClause() {
            int clause = numberAmong(CLAUSE_WORDS);
            if (clause == NONE) {
                fail();
                return;
            }
            advance();
            int amount = 0;
            if (clause == Verdict.NEED) amount = readItem();
            else if (clause != Verdict.SEE) amount = readNumber();
            boolean holds = true;
            if (isWord("if")) {
                advance();
                holds = readAny(0);
            }
            if (holds) verdict.take(clause, amount);
        }

        private int readItem() {
            int item = numberAmong(ITEM_WORDS);
            if (item == NONE) {
                fail();
                return 0;
            }
            advance();
            return 1 << item;
        }

        private int readNumber() {
            if (thing != NUMBER || end - begin > MOST_DIGITS) {
                fail();
                return 0;
            }
            int number = 0;
            for (int i = begin; i < end && i < text.length; i++) number = number * 10 + text[i] - '0';
            advance();
            return number;
        }

        private boolean readAny(int depth) {
            boolean holds = readAll(depth);
            for (int i = 0; i < text.length && isWord("or"); i++) {
                advance();
                holds |= readAll(depth);
            }
            return holds;
        }

        private boolean readAll(int depth) {
            boolean holds = readAtom(depth);
            for (int i = 0; i < text.length && isWord("and"); i++) {
                advance();
                holds &= readAtom(depth);
            }
            return holds;
        }

        private boolean readAtom(int depth) {
            boolean turns = isWord("not");
            if (!turns && !isSign('(')) return readFact();
            if (depth >= DEEPEST) {
                fail();
                return false;
            }
            advance();
            if (turns) return !readAtom(depth + 1);
            boolean holds = readAny(depth + 1);
            if (isSign(')')) advance();
            else fail();
            return holds;
        }

        private boolean readFact() {
            int fact = numberAmong(FACT_WORDS);
            if (fact < 0 || fact >= facts.length) {
                fail();
                return false;
            }
            int value = facts[fact];
            advance();
            boolean below = isSign('<');
            if (!below && !isSign('>')) return value != 0;
            advance();
            int bound = readNumber();
            return below ? value < bound : value > bound;
        }
    }

    /** What an asking needs, pays and gets by a law. */
    private static final class Verdict {
        static final int NEED = 0;
        static final int SEE = 5;
        private static final int FEE = 1;
        private static final int BACK = 2;
        private static final int YEARS = 3;
        private static final int RISK = 4;
        private static final int USUAL_YEARS = 10;

        int needs = 0;
        int fee = 0;
        int risk = 0;
        int back = NONE;
        boolean see = false;
        private int years = NONE;

        void take(int clause, int amount) {
            if (clause == NEED) needs |= amount;
            if (clause == FEE) fee += amount;
            if (clause == BACK && (back == NONE || amount < back)) back = amount;
            if (clause == YEARS) years = Math.max(years, amount);
            if (clause == RISK) risk += amount;
            if (clause == SEE) see = true;
        }

        int validYears() {
            return years == NONE ? USUAL_YEARS : years;
        }
    }

    /** One of the people. */
    private static final class Person {
        final int number;
        final int born;
        final boolean abroad;
        Name name = null;
        private final int[] face;
        // what was told of this one with each other
        private final int[] told = new int[MOST_PEOPLE];

        Person(int number, int born, boolean abroad, int[] face) {
            this.number = number;
            this.born = born;
            this.abroad = abroad;
            this.face = face;
        }

        int farFrom(Person other) {
            int sum = 0;
            for (int i = 0; i < face.length && i < other.face.length; i++) {
                int apart = face[i] - other.face[i];
                sum += apart * apart;
            }
            return sum;
        }

        void putTold(Person other, int what) {
            if (other.number >= 0 && other.number < told.length) told[other.number] = what;
        }

        int toldWith(Person other) {
            boolean kept = other.number >= 0 && other.number < told.length;
            return kept ? told[other.number] : People.UNTOLD;
        }
    }

    /** A name as it is turned. */
    private static final class Name {
        static final int SIGNS = 24;
        private static final int FILLER = '<';
        private static final int[] WEIGHTS = {7, 3, 1};
        private static final int[] MARKED = {196, 228, 198, 230, 214, 246, 216, 248, 220, 252, 223,
            197, 229, 209, 241, 201, 233, 200, 232, 199, 231};
        // how the marked letters are written: their first signs, and their second ones (or a blank)
        private static final String FIRSTS = "AAAAOOOOUUSAANNEEEECC";
        private static final String SECONDS = "EEEEEEEEEESAA        ";

        final int[] signs = new int[SIGNS];
        int length = 0;

        Name(int[] text) {
            Arrays.fill(signs, FILLER);
            for (int i = 0; i < text.length; i++) write(text[i]);
        }

        /** The first wrong byte of a text that is to be a name; NONE without one. */
        static int firstWrong(int[] text) {
            boolean gap = true;
            for (int i = 0; i < text.length; i++) {
                boolean gapHere = isGap(text[i]);
                if (i >= SIGNS || (gapHere && gap)) return i;
                if (!gapHere && !isLetter(text[i]) && markedNumber(text[i]) == NONE) return i;
                gap = gapHere;
            }
            return gap ? text.length : NONE;
        }

        private static boolean isGap(int sign) {
            return sign == ' ' || sign == '-';
        }

        private static boolean isLetter(int sign) {
            return (sign >= 'a' && sign <= 'z') || (sign >= 'A' && sign <= 'Z');
        }

        private static int markedNumber(int sign) {
            for (int i = 0; i < MARKED.length; i++) {
                if (MARKED[i] == sign) return i;
            }
            return NONE;
        }

        private void write(int sign) {
            int marked = markedNumber(sign);
            if (marked >= 0 && marked < FIRSTS.length() && marked < SECONDS.length()) {
                append(FIRSTS.charAt(marked));
                if (SECONDS.charAt(marked) != ' ') append(SECONDS.charAt(marked));
            } else if (isGap(sign)) {
                append(FILLER);
            } else {
                append(sign >= 'a' ? sign - 'a' + 'A' : sign);
            }
        }

        private void append(int sign) {
            if (length < SIGNS) signs[length] = sign;
            length++;
        }

        int checkFigure() {
            int sum = 0;
            for (int i = 0; i < SIGNS; i++) {
                int worth = signs[i] == FILLER ? 0 : signs[i] - 'A' + 10;
                sum += worth * WEIGHTS[i % WEIGHTS.length];
            }
            return sum % 10;
        }
    }

    /** All people. */
    private static final class People {
        static final int UNTOLD = 0;
        static final int SAME = 1;
        static final int OTHER = 2;

        final ArrayList<Person> all = new ArrayList<Person>();

        /** Whether one is near somebody of whom, with this one, just that was told. */
        boolean isNearOne(Person one, int told, int limit) {
            for (int i = 0; i < all.size(); i++) {
                Person other = all.get(i);
                boolean isTold = i != one.number && one.toldWith(other) == told;
                if (isTold && one.farFrom(other) <= limit) {
                    return true;
                }
            }
            return false;
        }
    }

    /** The desks' hands, and those that are lent to them. */
    private static final class Desks {
        static final int READ = 0;
        static final int CHECK = 1;
        static final int SEE = 2;
        static final int PRINT = 3;
        static final int COUNT = 4;
        static final int UNITS_OF_A_HAND = 8;
        static final int UNITS_OF_TRAINING = 2;
        /** The state of the askings that wait at each desk. */
        static final int[] STATE_AT = {0, 2, 4, 5};

        final ArrayList<Lent> lent = new ArrayList<Lent>();
        private final int[] hands = {1, 1, 1, 1};

        void setHands(int desk, int n) {
            if (desk >= 0 && desk < COUNT) hands[desk] = n;
        }

        int unitsOn(int desk, int day) {
            if (desk < 0 || desk >= COUNT) return 0;
            int units = hands[desk] * UNITS_OF_A_HAND;
            for (int i = 0; i < lent.size(); i++) {
                Lent some = lent.get(i);
                if (some.desk == desk) units += some.unitsOn(day);
            }
            return Math.max(0, units);
        }
    }

    /** Hands that are lent to a desk for some days. */
    private static final class Lent {
        final int desk;
        private final int n;
        private final int from;
        private final int to;
        private final int training;

        Lent(int desk, int n, int from, int to, int training) {
            this.desk = desk;
            this.n = n;
            this.from = from;
            this.to = to;
            this.training = training;
        }

        int unitsOn(int day) {
            if (day < from || day > to) return 0;
            boolean trained = day - from >= training;
            return trained ? n * Desks.UNITS_OF_A_HAND : -n * Desks.UNITS_OF_TRAINING;
        }
    }

    /** What is told to the office to go by. */
    private static final class Rules {
        int patience = 20;
        int limit = 30;
        int doubt = 10;
        int home = 2;
        int abroad = 9;
        // broken on no day at first
        int brokenFrom = 1;
        int brokenTo = 0;
    }

    /** An asking: what it came with, and how far it is. */
    private static final class Asking {
        static final int TO_READ = 0;
        static final int BACK = 1;
        static final int TO_CHECK = 2;
        static final int HELD = 3;
        static final int TO_SEE = 4;
        static final int TO_PRINT = 5;
        static final int IN_POST = 6;
        static final int GOT = 7;
        static final int LOST = 8;
        static final int REFUSED = 9;

        static final int FIRST = 0;
        static final int RENEW = 1;
        static final int LOST_ONE = 2;
        static final int SECOND = 3;

        private static final int TICKET = 64;

        final int number;
        final Person person;
        final int kind;
        final int came;
        final int wanted;
        final boolean urgent;
        final Verdict verdict;
        int state = TO_READ;
        int items = 0;
        boolean feeBack = false;
        int booklet = NONE;
        int read = NONE;
        int got = NONE;
        int comes = NONE;
        int backs = 0;

        Asking(int number, Person person, int kind, int came, int wanted, boolean urgent,
                Verdict verdict) {
            this.number = number;
            this.person = person;
            this.kind = kind;
            this.came = came;
            this.wanted = wanted;
            this.urgent = urgent;
            this.verdict = verdict;
        }

        Asking twin() {
            return new Asking(number, person, kind, came, wanted, urgent, verdict);
        }

        void copyFrom(Asking other) {
            state = other.state;
            items = other.items;
            feeBack = other.feeBack;
            booklet = other.booklet;
            read = other.read;
            got = other.got;
            comes = other.comes;
            backs = other.backs;
        }

        int lackingItems() {
            return verdict.needs & ~items;
        }

        boolean gaveTicket() {
            return (items & TICKET) != 0;
        }

        boolean isOpen() {
            return state <= TO_PRINT;
        }

        boolean isGotInTime() {
            return state == GOT && got <= wanted;
        }

        int waitedDays() {
            return got - came;
        }
    }

    /** A booklet: valid from its first day up to its end, that one not. */
    private static final class Booklet {
        int person = NONE;
        int first = 0;
        int end = 0;
        int asking = NONE;

        boolean isValidOn(int day) {
            return first <= day && day < end;
        }

        void copyFrom(Booklet other) {
            person = other.person;
            first = other.first;
            end = other.end;
            asking = other.asking;
        }
    }

    /** What changes from day to day: the askings, the booklets, the counts. */
    private static final class Office {
        private static final int MOST_BOOKLETS = 150;
        private static final int DAYS_OF_A_YEAR = 365;
        private static final int BY_COMING = 0;
        private static final int BY_TICKET = 2;
        private static final int READ_UNITS = 2;
        private static final int READ_AGAIN_UNITS = 1;
        private static final int CHECK_UNITS = 3;
        private static final int SEE_UNITS = 6;
        private static final int PRINT_UNITS = 1;

        private final People people;
        private final Desks desks;
        private final Rules rules;
        final ArrayList<Asking> askings = new ArrayList<Asking>();
        // rows behind those that are printed are left from an earlier trial, to be used again
        private final ArrayList<Booklet> bookletRows = new ArrayList<Booklet>();
        int printed = 0;
        int today = 0;
        int order = BY_COMING;
        int blanks = 0;
        int feesTaken = 0;
        int feesBack = 0;
        int calls = 0;
        int allCalls = 0;
        int unitsLeft = 0;

        Office(People people, Desks desks, Rules rules) {
            this.people = people;
            this.desks = desks;
            this.rules = rules;
        }

        void copyFrom(Office other) {
            copyAskings(other);
            copyBooklets(other);
            today = other.today;
            order = other.order;
            blanks = other.blanks;
            feesTaken = other.feesTaken;
            feesBack = other.feesBack;
            calls = other.calls;
            allCalls = other.allCalls;
            unitsLeft = other.unitsLeft;
        }

        private void copyAskings(Office other) {
            for (int i = 0; i < other.askings.size(); i++) {
                Asking one = other.askings.get(i);
                if (i >= askings.size()) askings.add(one.twin());
                if (i < askings.size()) askings.get(i).copyFrom(one);
            }
        }

        private void copyBooklets(Office other) {
            printed = 0;
            for (int i = 0; i < other.printed && i < other.bookletRows.size(); i++) {
                newBooklet().copyFrom(other.bookletRows.get(i));
            }
        }

        private Booklet newBooklet() {
            if (printed >= bookletRows.size()) bookletRows.add(new Booklet());
            Booklet row = bookletRows.get(Math.min(printed, bookletRows.size() - 1));
            printed++;
            return row;
        }

        /** A booklet that is printed, or null. */
        Booklet bookletAt(int number) {
            boolean there = number >= 0 && number < printed && number < bookletRows.size();
            return there ? bookletRows.get(number) : null;
        }

        // ---- counts

        int countIn(int state) {
            int n = 0;
            for (int i = 0; i < askings.size(); i++) {
                if (askings.get(i).state == state) n++;
            }
            return n;
        }

        int countOpen() {
            int n = 0;
            for (int i = 0; i < askings.size(); i++) {
                if (askings.get(i).isOpen()) n++;
            }
            return n;
        }

        int validOf(Person person, int day) {
            int n = 0;
            for (int i = 0; i < printed; i++) {
                Booklet one = bookletAt(i);
                if (one != null && one.person == person.number && one.isValidOn(day)) n++;
            }
            return n;
        }

        int countEnds(int from, int to) {
            int n = 0;
            for (int i = 0; i < printed; i++) {
                Booklet one = bookletAt(i);
                if (one != null && one.end >= from && one.end <= to) n++;
            }
            return n;
        }

        int countAhead(Asking one) {
            if (deskOf(one) == NONE) return NONE;
            int n = 0;
            for (int i = 0; i < askings.size(); i++) {
                Asking other = askings.get(i);
                if (other.state == one.state && isAhead(other, one)) n++;
            }
            return n;
        }

        private static int deskOf(Asking one) {
            for (int desk = 0; desk < Desks.COUNT; desk++) {
                if (Desks.STATE_AT[desk] == one.state) return desk;
            }
            return NONE;
        }

        // ---- the order at a desk

        private boolean isAhead(Asking one, Asking other) {
            if (one.urgent != other.urgent) return one.urgent;
            if (order == BY_TICKET && one.gaveTicket() != other.gaveTicket()) {
                return one.gaveTicket();
            }
            int first = order == BY_COMING ? one.came : one.wanted;
            int second = order == BY_COMING ? other.came : other.wanted;
            return first == second ? one.number < other.number : first < second;
        }

        /** The one that is ahead of all others in a state, or null if none is in it. */
        private Asking firstIn(int state) {
            Asking first = null;
            for (int i = 0; i < askings.size(); i++) {
                Asking one = askings.get(i);
                if (one.state == state && (first == null || isAhead(one, first))) first = one;
            }
            return first;
        }

        // ---- a day

        void passDay() {
            today++;
            takePost();
            countCalls();
            unitsLeft = 0;
            for (int desk = 0; desk < Desks.COUNT; desk++) unitsLeft += workAt(desk);
        }

        private void takePost() {
            for (int i = 0; i < askings.size(); i++) {
                Asking one = askings.get(i);
                if (one.state == Asking.IN_POST && one.comes <= today) arrive(one);
            }
        }

        private void countCalls() {
            int impatient = 0;
            for (int i = 0; i < askings.size(); i++) {
                Asking one = askings.get(i);
                if (one.isOpen() && today - one.came > rules.patience) impatient++;
            }
            calls = impatient / 3;
            allCalls += calls;
        }

        /** Lets a desk work for today: the units that are left at it. */
        private int workAt(int desk) {
            if (desk < 0 || desk >= Desks.COUNT) return 0;
            int units = desks.unitsOn(desk, today);
            if (desk == Desks.READ) units = Math.max(0, units - calls);
            // nobody comes to a desk while it works, so those behind the first keep their order
            for (int i = 0; i < askings.size(); i++) {
                Asking next = firstIn(Desks.STATE_AT[desk]);
                if (next == null || unitsFor(desk, next) > units) break;
                if (desk == Desks.PRINT && !canPrint()) break;
                units -= unitsFor(desk, next);
                serve(desk, next);
            }
            return units;
        }

        private static int unitsFor(int desk, Asking one) {
            if (desk == Desks.READ) return one.read == NONE ? READ_UNITS : READ_AGAIN_UNITS;
            if (desk == Desks.CHECK) return CHECK_UNITS + one.verdict.risk;
            return desk == Desks.SEE ? SEE_UNITS : PRINT_UNITS;
        }

        private boolean canPrint() {
            boolean broken = rules.brokenFrom <= today && today <= rules.brokenTo;
            return blanks > 0 && printed < MOST_BOOKLETS && !broken;
        }

        private void serve(int desk, Asking one) {
            if (desk == Desks.READ) read(one);
            else if (desk == Desks.CHECK) check(one);
            else if (desk == Desks.SEE) one.state = Asking.TO_PRINT;
            else print(one);
        }

        private void read(Asking one) {
            one.read = today;
            if (one.lackingItems() == 0) {
                one.state = Asking.TO_CHECK;
            } else {
                one.state = Asking.BACK;
                one.backs++;
            }
        }

        private void check(Asking one) {
            boolean see = one.verdict.see || one.verdict.risk > rules.doubt;
            if (people.isNearOne(one.person, People.SAME, rules.limit)) one.state = Asking.REFUSED;
            else if (people.isNearOne(one.person, People.UNTOLD, rules.limit)) one.state = Asking.HELD;
            else one.state = see ? Asking.TO_SEE : Asking.TO_PRINT;
        }

        /** How many of those that were held are not any more. */
        int checkHeldAgain() {
            int freed = 0;
            for (int i = 0; i < askings.size(); i++) {
                Asking one = askings.get(i);
                if (one.state == Asking.HELD) {
                    check(one);
                    if (one.state != Asking.HELD) freed++;
                }
            }
            return freed;
        }

        private void print(Asking one) {
            blanks--;
            if (one.kind != Asking.SECOND) endValidOnes(one.person);
            one.booklet = printed;
            Booklet booklet = newBooklet();
            booklet.person = one.person.number;
            booklet.first = today;
            booklet.end = today + one.verdict.validYears() * DAYS_OF_A_YEAR;
            booklet.asking = one.number;
            int way = one.person.abroad ? rules.abroad : rules.home;
            one.comes = today + way;
            one.state = Asking.IN_POST;
            if (way == 0) arrive(one);
        }

        private void endValidOnes(Person person) {
            for (int i = 0; i < printed; i++) {
                Booklet one = bookletAt(i);
                if (one != null && one.person == person.number && one.isValidOn(today)) {
                    one.end = today;
                }
            }
        }

        void endBooklet(int number) {
            Booklet one = bookletAt(number);
            if (one != null && one.end > today) one.end = today;
        }

        private void arrive(Asking one) {
            one.state = Asking.GOT;
            one.got = today;
            if (one.verdict.back != NONE && one.got - one.wanted > one.verdict.back) {
                one.feeBack = true;
                feesBack += one.verdict.fee;
            }
        }
    }
}
