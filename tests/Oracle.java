import java.util.ArrayDeque;
import java.util.ArrayList;
import java.util.Arrays;
import java.util.Collections;
import java.util.Comparator;
import java.util.Deque;
import java.util.HashMap;
import java.util.HashSet;
import java.util.List;
import java.util.Map;
import java.util.Set;
import java.util.TreeMap;

/**
 * The document once more, written in the slowest and plainest way, to be held against the program:
 * whole copies of the state in place of undoing, trees in place of steps, exceptions in place of numbers.
 */
public final class Oracle {
    private static final int NONE = -1;

    private static final class Refused extends Exception {
        private static final long serialVersionUID = 1;
        final int by;

        Refused(int by) {
            super(null, null, false, false);
            this.by = by;
        }
    }

    private static final class Fault extends Exception {
        private static final long serialVersionUID = 1;
        final int place;

        Fault(int place) {
            super(null, null, false, false);
            this.place = place;
        }
    }

    private static final class Broken extends Exception {
        private static final long serialVersionUID = 1;

        Broken() {
            super(null, null, false, false);
        }
    }

    private static final class Prayer {
        int asker;
        int thing;
        int length;
        int voices;
        int said;
        int state;
        int on = NONE;

        Prayer copy() {
            Prayer p = new Prayer();
            p.asker = asker;
            p.thing = thing;
            p.length = length;
            p.voices = voices;
            p.said = said;
            p.state = state;
            p.on = on;
            return p;
        }
    }

    private static final class State {
        List<Integer> words = new ArrayList<>();
        List<int[]> rules = new ArrayList<>();
        Set<Integer> clashes = new HashSet<>();
        Map<Integer, Integer> often = new TreeMap<>();
        List<Integer> people = new ArrayList<>();
        List<Prayer> prayers = new ArrayList<>();
        List<int[]> bundles = new ArrayList<>();
        List<int[]> answers = new ArrayList<>();
        int[] terms = {0, 1, 3, 0};
        List<List<Clause>> laws = new ArrayList<>();
        int force = NONE;

        State copy() {
            State s = new State();
            s.words.addAll(words);
            s.rules.addAll(rules);
            s.clashes.addAll(clashes);
            s.often.putAll(often);
            s.people.addAll(people);
            for (Prayer p : prayers) {
                s.prayers.add(p.copy());
            }
            s.bundles.addAll(bundles);
            s.answers.addAll(answers);
            s.terms = terms.clone();
            s.laws.addAll(laws);
            s.force = force;
            return s;
        }
    }

    /** A node of a TEXT: its sign, its parts, or a number, or a word with its T. */
    private static final class Node {
        final String sign;
        final Node a;
        final Node b;
        final int value;

        Node(String sign, Node a, Node b, int value) {
            this.sign = sign;
            this.a = a;
            this.b = b;
            this.value = value;
        }
    }

    private static final class Clause {
        String kind;
        List<Node> sums = new ArrayList<>();
        int times = 1;
        Node test;
    }

    private interface Words {
        long ask(String word, int t);
    }

    private State now = new State();
    private final State[] images = new State[2];
    private final List<Integer> tape = new ArrayList<>();
    private final Deque<State> undoStates = new ArrayDeque<>();
    private final Deque<Integer> undoKinds = new ArrayDeque<>();
    private int fault = NONE;
    private int coughs;
    private int stopped = NONE;
    private int status;
    private final int[] refusals = new int[7];
    private int[][] season;

    private int refuse(int by) {
        status = by;
        refusals[-by]++;
        return by;
    }

    private int fine(int answer) {
        status = 0;
        return answer;
    }

    private static boolean in(int x, int low, int high) {
        return low <= x && x <= high;
    }

    public int word(int length) {
        if (!in(length, 1, 9)) {
            return refuse(-1);
        }
        if (now.words.size() == 10) {
            return refuse(-5);
        }
        now.words.add(length);
        return fine(now.words.size() - 1);
    }

    public int lengthOf(int word) {
        return in(word, 0, now.words.size() - 1) ? now.words.get(word) : NONE;
    }

    public int rule(int thing, int a, int b, int c) {
        if (!in(thing, 0, 7) || !in(a, 0, 17) || !in(b, -1, 17) || !in(c, -1, 17) || (b < 0 && c >= 0)) {
            return refuse(-1);
        }
        for (int part : new int[] {a, b, c}) {
            if (part >= now.words.size() && part < 10) {
                return refuse(-2);
            }
        }
        if (now.rules.size() == 16) {
            return refuse(-5);
        }
        now.rules.add(new int[] {thing, a, b, c});
        return fine(now.rules.size() - 1);
    }

    public int of(int rule, int what) {
        return in(rule, 0, now.rules.size() - 1) && in(what, 0, 3) ? now.rules.get(rule)[what] : NONE;
    }

    private static int pair(int one, int other) {
        return Math.min(one, other) * 8 + Math.max(one, other);
    }

    public int clash(int one, int other, int is) {
        if (!in(one, 0, 7) || !in(other, 0, 7) || one == other || !in(is, 0, 1)) {
            return refuse(-1);
        }
        boolean was = is == 1 ? !now.clashes.add(pair(one, other)) : now.clashes.remove(pair(one, other));
        return fine(was ? 1 : 0);
    }

    public int often(int thing, int value) {
        if (!in(thing, 0, 7) || !in(value, 0, 99)) {
            return refuse(-1);
        }
        int was = now.often.getOrDefault(thing, 0);
        if (value == 0) {
            now.often.remove(thing);
        } else {
            now.often.put(thing, value);
        }
        return fine(was);
    }

    public int person(int age) {
        if (!in(age, 0, 99)) {
            return refuse(-1);
        }
        if (now.people.size() == 6) {
            return refuse(-5);
        }
        now.people.add(age);
        return fine(now.people.size() - 1);
    }

    public int breath(int person, int what) {
        if (!in(person, 0, now.people.size() - 1) || !in(what, 0, 1)) {
            return NONE;
        }
        return what == 0 ? now.people.get(person) : breathOf(now, person);
    }

    public int terms(int what, int value) {
        int[] low = {0, 1, 0, 0};
        int[] high = {999, 4, 30, 9};
        if (!in(what, 0, 3) || !in(value, low[what], high[what])) {
            return refuse(-1);
        }
        int was = now.terms[what];
        now.terms[what] = value;
        forgetUndo();
        return fine(was);
    }

    private void forgetUndo() {
        undoStates.clear();
        undoKinds.clear();
    }

    public int feed(int a, int b, int c, int d, int e) {
        if (tape.size() + 20 > 400) {
            return NONE;
        }
        for (int x : new int[] {a, b, c, d, e}) {
            tape.add(x >>> 24);
            tape.add(x >>> 16 & 255);
            tape.add(x >>> 8 & 255);
            tape.add(x & 255);
        }
        return tape.size();
    }

    public int end(int n) {
        if (n < 0 || n > tape.size()) {
            return NONE;
        }
        tape.subList(n, tape.size()).clear();
        return n;
    }

    public int row() {
        if (tape.isEmpty()) {
            return refuse(-6);
        }
        int came = 0;
        coughs = 0;
        while (!tape.isEmpty()) {
            try {
                if (tape.size() < 3) {
                    throw new Refused(-6);
                }
                utter(now, tape.get(0), tape.get(1), tape.get(2), 1, true);
                came++;
            } catch (Refused refused) {
                coughs++;
            }
            tape.subList(0, Math.min(3, tape.size())).clear();
        }
        forgetUndo();
        return fine(came);
    }

    public int coughs() {
        return coughs;
    }

    private String takeText() {
        StringBuilder text = new StringBuilder();
        for (int sign : tape) {
            text.append((char) sign);
        }
        tape.clear();
        return text.toString();
    }

    public int law() {
        String text = takeText();
        if (now.laws.size() == 6) {
            return refuse(-5);
        }
        try {
            fault = NONE;
            now.laws.add(new Parser(text, false).clauses());
            return fine(now.laws.size() - 1);
        } catch (Fault at) {
            fault = at.place;
            return refuse(-6);
        }
    }

    public int orders() {
        List<Clause> clauses;
        stopped = NONE;
        try {
            fault = NONE;
            clauses = new Parser(takeText(), true).clauses();
        } catch (Fault at) {
            fault = at.place;
            return refuse(-6);
        }
        State before = now.copy();
        Deque<State> statesBefore = new ArrayDeque<>(undoStates);
        Deque<Integer> kindsBefore = new ArrayDeque<>(undoKinds);
        int done = 0;
        for (int i = 0; i < clauses.size(); i++) {
            for (int t = 0; t < clauses.get(i).times; t++) {
                try {
                    done += runOnce(clauses.get(i), done) ? 1 : 0;
                } catch (Refused refused) {
                    now = before;
                    undoStates.clear();
                    undoStates.addAll(statesBefore);
                    undoKinds.clear();
                    undoKinds.addAll(kindsBefore);
                    stopped = i;
                    return refuse(refused.by == -5 ? -5 : -3);
                }
            }
        }
        return fine(done);
    }

    private boolean runOnce(Clause clause, int done) throws Refused {
        Words words = (word, t) -> {
            switch (word) {
                case "day":
                    return now.terms[0];
                case "prayers":
                    return now.prayers.size();
                case "waiting":
                    return now.prayers.stream().filter(p -> p.state == 0).count();
                case "done":
                    return done;
                case "said":
                    return say(t, 0);
                default:
                    return now.prayers.stream().filter(p -> p.state == 1 && p.thing == t).count();
            }
        };
        try {
            if (clause.test != null && !isSo(clause.test, words)) {
                return false;
            }
        } catch (Broken broken) {
            return false;
        }
        if (clause.kind.equals("dawn")) {
            doDawn();
            return true;
        }
        try {
            long asker = value(clause.sums.get(0), words);
            long thing = value(clause.sums.get(1), words);
            long length = value(clause.sums.get(2), words);
            doPray((int) asker, (int) thing, (int) length, 1);
        } catch (Broken broken) {
            throw new Refused(-3);
        }
        return true;
    }

    public int fault() {
        return fault;
    }

    public int stopped() {
        return stopped;
    }

    public int force(int law) {
        if (!in(law, -1, now.laws.size() - 1)) {
            return refuse(-2);
        }
        int was = now.force;
        now.force = law;
        return fine(was);
    }

    /** A wording: LENGTH, the RULES it takes in the order in which they are compared, and its WORDS. */
    private static final class Wording {
        int length;
        List<Integer> rules = new ArrayList<>();
        List<Integer> words = new ArrayList<>();

        static int compare(Wording a, Wording b) {
            if (a.length != b.length) {
                return a.length - b.length;
            }
            if (a.rules.size() != b.rules.size()) {
                return a.rules.size() - b.rules.size();
            }
            for (int i = 0; i < a.rules.size(); i++) {
                if (!a.rules.get(i).equals(b.rules.get(i))) {
                    return a.rules.get(i) - b.rules.get(i);
                }
            }
            return 0;
        }
    }

    private Wording wording(int thing, int within, Map<Integer, Wording> known) {
        int key = within * 8 + thing;
        if ((within >> thing & 1) == 1) {
            return null;
        }
        if (known.containsKey(key)) {
            return known.get(key);
        }
        Wording best = null;
        for (int r = 0; r < now.rules.size(); r++) {
            int[] rule = now.rules.get(r);
            if (rule[0] != thing) {
                continue;
            }
            Wording made = new Wording();
            made.rules.add(r);
            for (int i = 1; i <= 3 && made != null; i++) {
                if (rule[i] >= 10) {
                    Wording part = wording(rule[i] - 10, within | 1 << thing, known);
                    if (part == null) {
                        made = null;
                    } else {
                        made.length += part.length;
                        made.rules.addAll(part.rules);
                        made.words.addAll(part.words);
                    }
                } else if (rule[i] >= 0) {
                    made.length += now.words.get(rule[i]);
                    made.words.add(rule[i]);
                }
            }
            if (made != null && (best == null || Wording.compare(made, best) < 0)) {
                best = made;
            }
        }
        known.put(key, best);
        return best;
    }

    public int say(int thing, int what) {
        Wording best = in(thing, 0, 7) && what >= 0 ? wording(thing, 0, new HashMap<>()) : null;
        if (best == null) {
            return NONE;
        }
        switch (what) {
            case 0:
                return best.length;
            case 1:
                return best.words.size();
            case 2:
                return best.rules.size();
            default:
                return what - 3 < best.words.size() ? best.words.get(what - 3) : NONE;
        }
    }

    private static Prayer prayer(State s, int asker, int thing, int length, int voices) {
        Prayer p = new Prayer();
        p.asker = asker;
        p.thing = thing;
        p.length = length;
        p.voices = voices;
        p.said = s.terms[0];
        s.prayers.add(p);
        return p;
    }

    private static void utter(State s, int asker, int thing, int length, int voices, boolean room) throws Refused {
        if (!in(thing, 0, 7) || !in(length, 1, 99) || !in(voices, 1, 6)) {
            throw new Refused(-1);
        }
        if (!in(asker, 0, s.people.size() - 1)) {
            throw new Refused(-2);
        }
        if (length > breathOf(s, asker)) {
            throw new Refused(-3);
        }
        if (room && s.prayers.size() >= 16) {
            throw new Refused(-5);
        }
        prayer(s, asker, thing, length, voices);
    }

    private void noteUndo(State before, int kind) {
        undoStates.addLast(before);
        undoKinds.addLast(kind);
        if (undoKinds.size() > 16) {
            undoStates.removeFirst();
            undoKinds.removeFirst();
        }
    }

    private void doPray(int asker, int thing, int length, int voices) throws Refused {
        State before = now.copy();
        utter(now, asker, thing, length, voices, true);
        noteUndo(before, 0);
    }

    private int doDawn() throws Refused {
        if (now.terms[0] == 999) {
            throw new Refused(-3);
        }
        State before = now.copy();
        int granted = dawnOn(now).size();
        noteUndo(before, 1);
        return granted;
    }

    public int pray(int asker, int thing, int length, int voices) {
        try {
            doPray(asker, thing, length, voices);
            return fine(now.prayers.size() - 1);
        } catch (Refused refused) {
            return refuse(refused.by);
        }
    }

    public int at(int prayer, int what) {
        if (!in(prayer, 0, now.prayers.size() - 1) || !in(what, 0, 6)) {
            return NONE;
        }
        Prayer p = now.prayers.get(prayer);
        return new int[] {p.asker, p.thing, p.length, p.voices, p.said, p.state, p.on}[what];
    }

    private boolean waits(int prayer) {
        return in(prayer, 0, now.prayers.size() - 1) && now.prayers.get(prayer).state == 0;
    }

    public int rank(int prayer, int what) {
        if (!waits(prayer) || !in(what, 0, 1)) {
            return -1000000;
        }
        Prayer p = now.prayers.get(prayer);
        return what == 0 ? rankOf(now, p) : isBarred(now, p) ? 1 : 0;
    }

    public int order(int i) {
        List<Prayer> order = heardOrder(now);
        if (i == NONE) {
            return order.size();
        }
        return in(i, 0, order.size() - 1) ? now.prayers.indexOf(order.get(i)) : NONE;
    }

    public int dawn() {
        try {
            return fine(doDawn());
        } catch (Refused refused) {
            return refuse(refused.by);
        }
    }

    public int undo() {
        if (undoKinds.isEmpty()) {
            return refuse(-3);
        }
        State before = undoStates.removeLast();
        now.prayers = before.copy().prayers;
        now.terms[0] = before.terms[0];
        return fine(undoKinds.removeLast());
    }

    public int sweep() {
        int had = now.prayers.size();
        now.prayers.removeIf(p -> p.state != 0);
        forgetUndo();
        return had - now.prayers.size();
    }

    // ---- what the LAW in FORCE tells

    private static List<Clause> lawOf(State s) {
        return s.force == NONE ? List.of() : s.laws.get(s.force);
    }

    private static Words words(State s, Prayer p) {
        int day = s.terms[0] + 1;
        return (word, t) -> {
            switch (word) {
                case "length":
                    return p.length;
                case "voices":
                    return p.voices;
                case "asker":
                    return p.asker;
                case "age":
                    return s.people.get(p.asker);
                case "thing":
                    return p.thing;
                case "waits":
                    return day - p.said;
                case "day":
                    return day;
                default:
                    return s.terms[3];
            }
        };
    }

    private static List<Long> held(State s, String kind, Words words) {
        List<Long> held = new ArrayList<>();
        for (Clause clause : lawOf(s)) {
            try {
                if (clause.kind.equals(kind) && (clause.test == null || isSo(clause.test, words))) {
                    held.add(clause.sums.isEmpty() ? 1L : value(clause.sums.get(0), words));
                }
            } catch (Broken broken) {
                // it does not HOLD
            }
        }
        return held;
    }

    private static int rankOf(State s, Prayer p) {
        List<Long> held = held(s, "rank", words(s, p));
        return held.isEmpty() ? p.length : (int) Math.max(-9999, Math.min(9999, held.get(held.size() - 1)));
    }

    private static boolean isBarred(State s, Prayer p) {
        return !held(s, "bars", words(s, p)).isEmpty();
    }

    private static int breathOf(State s, int person) {
        List<Long> held = held(s, "breath", (word, t) -> {
            switch (word) {
                case "asker":
                    return person;
                case "age":
                    return s.people.get(person);
                case "day":
                    return s.terms[0];
                case "mood":
                    return s.terms[3];
                default:
                    return -1;
            }
        });
        return held.isEmpty() ? 99 : (int) Math.max(0, Math.min(99, held.get(held.size() - 1)));
    }

    private static List<Prayer> heardOrder(State s) {
        List<Prayer> waiting = new ArrayList<>();
        Map<Prayer, Integer> ranks = new HashMap<>();
        for (Prayer p : s.prayers) {
            if (p.state == 0 && !isBarred(s, p)) {
                waiting.add(p);
                ranks.put(p, rankOf(s, p));
            }
        }
        waiting.sort(Comparator.comparing(ranks::get));
        return waiting;
    }

    /** A DAWN: those that are GRANTED. */
    private static List<Prayer> dawnOn(State s) {
        List<Prayer> order = heardOrder(s);
        List<Prayer> granted = new ArrayList<>();
        s.terms[0]++;
        for (Prayer p : order.subList(0, Math.min(order.size(), s.terms[1]))) {
            boolean denied = s.prayers.stream().anyMatch(q -> q.state == 1 && s.terms[0] - q.on < s.terms[2]
                && (q.thing == p.thing || s.clashes.contains(pair(q.thing, p.thing))));
            p.state = denied ? 2 : 1;
            p.on = s.terms[0];
            if (!denied) {
                granted.add(p);
            }
        }
        return granted;
    }

    // ---- codes, bundles

    public int code(int letters, int what) {
        List<Integer> lengths = new ArrayList<>();
        for (int i = 0; i < 32; i++) {
            if ((letters >>> i & 1) == 1) {
                if (i >= now.words.size()) {
                    return NONE;
                }
                lengths.add(now.words.get(i));
            }
        }
        if (!in(lengths.size(), 2, 3) || now.often.size() > 6 || !in(what, 0, 8)) {
            return NONE;
        }
        List<Integer> things = new ArrayList<>(now.often.keySet());
        if (things.isEmpty()) {
            return what == 0 ? 0 : NONE;
        }
        // all trees whose inner nodes have all letters; leaves may stay without a THING
        Set<List<Integer>> trees = new HashSet<>();
        Collections.sort(lengths);
        trees.add(lengths);
        List<Integer> best = null;
        int bestTotal = 0;
        for (int inner = 1; inner <= Math.max(1, things.size() - 1); inner++) {
            Set<List<Integer>> next = new HashSet<>();
            for (List<Integer> leaves : trees) {
                if (leaves.size() >= things.size()) {
                    List<Integer> row = shareOut(things, leaves);
                    int total = 0;
                    for (int i = 0; i < row.size(); i++) {
                        total += row.get(i) * now.often.get(things.get(i));
                    }
                    if (best == null || total < bestTotal || (total == bestTotal && isAhead(row, best))) {
                        best = row;
                        bestTotal = total;
                    }
                }
                for (int i = 0; i < leaves.size(); i++) {
                    List<Integer> grown = new ArrayList<>(leaves);
                    int leaf = grown.remove(i);
                    for (int length : lengths) {
                        grown.add(leaf + length);
                    }
                    Collections.sort(grown);
                    next.add(grown);
                }
            }
            trees = next;
        }
        if (what == 0) {
            return bestTotal;
        }
        int place = things.indexOf(what - 1);
        return place < 0 ? NONE : best.get(place);
    }

    private List<Integer> shareOut(List<Integer> things, List<Integer> leaves) {
        List<Integer> places = new ArrayList<>();
        for (int i = 0; i < things.size(); i++) {
            places.add(i);
        }
        places.sort(Comparator.comparing((Integer i) -> -now.often.get(things.get(i))));
        Integer[] row = new Integer[things.size()];
        for (int i = 0; i < row.length; i++) {
            row[places.get(i)] = leaves.get(i);
        }
        return Arrays.asList(row);
    }

    private static boolean isAhead(List<Integer> a, List<Integer> b) {
        for (int i = 0; i < a.size(); i++) {
            if (!a.get(i).equals(b.get(i))) {
                return a.get(i) < b.get(i);
            }
        }
        return false;
    }

    public int bundle(int things, int length) {
        if (!in(things, 1, 255) || !in(length, 1, 99)) {
            return refuse(-1);
        }
        if (now.bundles.size() == 10) {
            return refuse(-5);
        }
        now.bundles.add(new int[] {things, length});
        return fine(now.bundles.size() - 1);
    }

    public int cover(int things, int what) {
        if (!in(things, 1, 255) || !in(what, 0, 1)) {
            return NONE;
        }
        List<int[]> covers = new ArrayList<>();
        for (int bits = 0; bits < 1 << now.bundles.size(); bits++) {
            int left = things;
            int length = 0;
            for (int i = 0; i < now.bundles.size(); i++) {
                if ((bits >> i & 1) == 1) {
                    left &= ~now.bundles.get(i)[0];
                    length += now.bundles.get(i)[1];
                }
            }
            if (left == 0) {
                covers.add(new int[] {length, Integer.bitCount(bits), bits});
            }
        }
        if (covers.isEmpty()) {
            return NONE;
        }
        covers.sort((a, b) -> Arrays.compare(a, b));
        return what == 0 ? covers.get(0)[0] : covers.get(0)[2];
    }

    // ---- what would be

    public int when(int prayer, int n, int what) {
        if (!waits(prayer) || !in(n, 1, 50) || !in(what, 0, 1)) {
            return NONE;
        }
        State s = now.copy();
        Prayer p = s.prayers.get(prayer);
        for (int i = 0; i < n && s.terms[0] < 999; i++) {
            dawnOn(s);
            if (p.state != 0) {
                return what == 0 ? s.terms[0] : p.state == 1 ? 1 : 0;
            }
        }
        return NONE;
    }

    public int longest(int asker, int thing, int voices) {
        if (!in(asker, 0, now.people.size() - 1) || !in(thing, 0, 7) || !in(voices, 1, 6) || now.terms[0] == 999) {
            return NONE;
        }
        int longest = NONE;
        for (int length = 1; length <= breathOf(now, asker); length++) {
            State s = now.copy();
            Prayer p = prayer(s, asker, thing, length, voices);
            if (dawnOn(s).contains(p)) {
                longest = length;
            }
        }
        return longest;
    }

    public int keep(int prayer, int n, int asker, int thing, int length) {
        if (!waits(prayer) || !in(n, 1, 20) || !in(asker, 0, now.people.size() - 1) || !in(thing, 0, 7)
            || !in(length, 1, 99) || length > breathOf(now, asker)) {
            return NONE;
        }
        for (int more = 0; more <= 8; more++) {
            State s = now.copy();
            for (int i = 0; i < more; i++) {
                prayer(s, asker, thing, length, 1);
            }
            boolean granted = false;
            for (int i = 0; i < n && s.terms[0] < 999; i++) {
                granted |= dawnOn(s).contains(s.prayers.get(prayer));
            }
            if (!granted) {
                return more;
            }
        }
        return NONE;
    }

    public int answer(int k, int thing, int is) {
        if (!in(k, 1, 9) || !in(thing, 0, 7) || !in(is, 0, 1)) {
            return refuse(-1);
        }
        if (now.answers.size() == 6) {
            return refuse(-5);
        }
        now.answers.add(new int[] {k, thing, is});
        return fine(now.answers.size());
    }

    public int forget() {
        int had = now.answers.size();
        now.answers.clear();
        return had;
    }

    public int hidden(int i) {
        int found = 0;
        for (int told = 0; told < now.people.size() * 240; told++) {
            if (explains(told)) {
                if (found == i) {
                    return told;
                }
                found++;
            }
        }
        return i == NONE ? found : NONE;
    }

    private boolean explains(int told) {
        State s = now.copy();
        prayer(s, told / 240, told % 240 / 30, told % 30 + 1, 1);
        int last = 0;
        for (int[] answer : now.answers) {
            last = Math.max(last, answer[0]);
        }
        for (int k = 1; k <= last; k++) {
            Set<Integer> things = new HashSet<>();
            if (s.terms[0] < 999) {
                for (Prayer p : dawnOn(s)) {
                    things.add(p.thing);
                }
            }
            for (int[] answer : now.answers) {
                if (answer[0] == k && things.contains(answer[1]) != (answer[2] == 1)) {
                    return false;
                }
            }
        }
        return true;
    }

    public int season(int seed, int n) {
        if (!in(seed, 0, 1000000) || !in(n, 1, 60)) {
            return refuse(-1);
        }
        if (now.people.isEmpty()) {
            return refuse(-3);
        }
        season = new int[now.people.size()][4];
        State s = now.copy();
        long draw = seed;
        int granted = 0;
        for (int i = 0; i < n; i++) {
            int[] of = {s.people.size(), 8, 40};
            int[] drawn = new int[3];
            for (int j = 0; j < 3; j++) {
                draw = (draw * 1103 + 12345) % 1000003;
                drawn[j] = (int) (draw % of[j]);
            }
            try {
                utter(s, drawn[0], drawn[1], drawn[2] + 1, 1, true);
                season[drawn[0]][0]++;
            } catch (Refused refused) {
                // it is not said
            }
            if (s.terms[0] == 999) {
                break;
            }
            granted += dawnOn(s).size();
        }
        for (Prayer p : s.prayers) {
            season[p.asker][p.state == 0 ? 3 : p.state]++;
        }
        return fine(granted);
    }

    public int drawn(int person, int what) {
        return season == null || !in(person, 0, season.length - 1) || !in(what, 0, 3) ? NONE : season[person][what];
    }

    public int image(int k) {
        if (!in(k, 0, 1)) {
            return refuse(-1);
        }
        images[k] = now.copy();
        return fine(0);
    }

    public int back(int k) {
        if (!in(k, 0, 1)) {
            return refuse(-1);
        }
        if (images[k] == null) {
            return refuse(-2);
        }
        now = images[k].copy();
        forgetUndo();
        return fine(0);
    }

    public int count(int what) {
        if (!in(what, 0, 19)) {
            return NONE;
        }
        int waiting = 0;
        for (Prayer p : now.prayers) {
            waiting += p.state == 0 ? 1 : 0;
        }
        return new int[] {now.words.size(), now.rules.size(), now.people.size(), now.prayers.size(), waiting,
            now.bundles.size(), now.answers.size(), now.laws.size(), undoKinds.size(), tape.size(),
            refusals[1], refusals[2], refusals[3], refusals[5], refusals[6], now.force,
            now.terms[0], now.terms[1], now.terms[2], now.terms[3]}[what];
    }

    public int status() {
        return status;
    }

    // ---- what a TEXT is worth

    private static long whole(long value) throws Broken {
        if (value > 1000000000L || value < -1000000000L) {
            throw new Broken();
        }
        return value;
    }

    private static long value(Node node, Words words) throws Broken {
        if (node.sign.equals("number")) {
            return node.value;
        }
        if (node.a == null) {
            return words.ask(node.sign, node.value);
        }
        long a = value(node.a, words);
        long b = value(node.b, words);
        switch (node.sign) {
            case "+":
                return whole(a + b);
            case "-":
                return whole(a - b);
            case "*":
                return whole(a * b);
            default:
                if (b == 0) {
                    throw new Broken();
                }
                return node.sign.equals("/") ? whole(a / b) : a - a / b * b;
        }
    }

    private static boolean isSo(Node node, Words words) throws Broken {
        switch (node.sign) {
            case "or":
                return isSo(node.a, words) || isSo(node.b, words);
            case "and":
                return isSo(node.a, words) && isSo(node.b, words);
            case "not":
                return !isSo(node.a, words);
            case "<":
                return value(node.a, words) < value(node.b, words);
            case ">":
                return value(node.a, words) > value(node.b, words);
            default:
                return value(node.a, words) == value(node.b, words);
        }
    }

    // ---- reading a TEXT

    private static final class Parser {
        private final List<String> tokens = new ArrayList<>();
        private final List<Integer> places = new ArrayList<>();
        private final boolean ordering;
        private int next;
        private int parts;
        private int brackets;

        Parser(String text, boolean ordering) {
            this.ordering = ordering;
            java.util.regex.Matcher matcher =
                java.util.regex.Pattern.compile("[a-z]+|[0-9]+|[^ ]", java.util.regex.Pattern.DOTALL).matcher(text);
            while (matcher.find()) {
                tokens.add(matcher.group());
                places.add(matcher.start());
            }
            tokens.add("");
            places.add(text.length());
        }

        private String token() {
            return tokens.get(next);
        }

        private Fault fault() {
            return new Fault(places.get(next));
        }

        private boolean isOneOf(String... signs) {
            return Arrays.asList(signs).contains(token());
        }

        private String take(String... signs) throws Fault {
            if (!isOneOf(signs)) {
                throw fault();
            }
            return tokens.get(next++);
        }

        private int takeNumber(int low, int high) throws Fault {
            if (!token().matches("[0-9]+")) {
                throw fault();
            }
            java.math.BigInteger value = new java.math.BigInteger(token());
            if (value.compareTo(java.math.BigInteger.valueOf(low)) < 0
                || value.compareTo(java.math.BigInteger.valueOf(high)) > 0) {
                throw fault();
            }
            next++;
            return value.intValue();
        }

        List<Clause> clauses() throws Fault {
            List<Clause> clauses = new ArrayList<>();
            clauses.add(clause());
            while (!token().isEmpty()) {
                take(";");
                if (clauses.size() == 12) {
                    throw fault();
                }
                clauses.add(clause());
            }
            return clauses;
        }

        private Clause clause() throws Fault {
            Clause clause = new Clause();
            clause.kind = ordering ? take("pray", "dawn") : take("rank", "breath", "bars");
            if (clause.kind.equals("pray")) {
                clause.sums.add(sum());
                take("for");
                clause.sums.add(sum());
                take("of");
                clause.sums.add(sum());
            } else if (isKindWithSum(clause.kind)) {
                clause.sums.add(sum());
            }
            if (ordering && isOneOf("times")) {
                next++;
                clause.times = takeNumber(1, 20);
            }
            if (isOneOf("if")) {
                next++;
                clause.test = test();
            }
            return clause;
        }

        private static boolean isKindWithSum(String kind) {
            return kind.equals("rank") || kind.equals("breath");
        }

        private Node test() throws Fault {
            Node node = both();
            while (isOneOf("or")) {
                node = new Node(take("or"), node, both(), 0);
            }
            return node;
        }

        private Node both() throws Fault {
            Node node = plain();
            while (isOneOf("and")) {
                node = new Node(take("and"), node, plain(), 0);
            }
            return node;
        }

        private Node plain() throws Fault {
            if (isOneOf("not")) {
                return new Node(take("not"), plain(), null, 0);
            }
            if (isOneOf("(")) {
                openBracket();
                Node node = test();
                take(")");
                brackets--;
                return node;
            }
            Node left = sum();
            return new Node(take("<", ">", "="), left, sum(), 0);
        }

        private void openBracket() throws Fault {
            if (brackets == 8) {
                throw fault();
            }
            brackets++;
            next++;
        }

        private Node sum() throws Fault {
            Node node = term();
            while (isOneOf("+", "-")) {
                node = new Node(take("+", "-"), node, term(), 0);
            }
            return node;
        }

        private Node term() throws Fault {
            Node node = part();
            while (isOneOf("*", "/", "%")) {
                node = new Node(take("*", "/", "%"), node, part(), 0);
            }
            return node;
        }

        private Node part() throws Fault {
            if (isOneOf("[")) {
                openBracket();
                Node node = sum();
                take("]");
                brackets--;
                return node;
            }
            if (parts == 50) {
                throw fault();
            }
            parts++;
            if (token().matches("[0-9]+")) {
                return new Node("number", null, null, takeNumber(0, 1000));
            }
            String word = ordering ? take("day", "prayers", "waiting", "done", "said", "granted")
                : take("length", "voices", "asker", "age", "thing", "waits", "day", "mood");
            return new Node(word, null, null, word.equals("said") || word.equals("granted") ? takeNumber(0, 7) : 0);
        }
    }
}
