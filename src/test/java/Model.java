import java.math.BigInteger;
import java.util.ArrayList;
import java.util.Arrays;
import java.util.HashMap;
import java.util.HashSet;
import java.util.List;
import java.util.Map;
import java.util.NoSuchElementException;
import java.util.Set;
import java.util.function.ToIntFunction;
import java.util.regex.Matcher;
import java.util.regex.Pattern;

/** The document again, written for being plain and not for speed: what DeadWires is compared with. */
public final class Model {
    private static final int NONE = -1;

    static final class Fault extends RuntimeException {
        private static final long serialVersionUID = 1L;
        final int kind;
        final int place;

        Fault(int kind, int place) {
            this.kind = kind;
            this.place = place;
        }
    }

    static final class Token {
        String text;
        int start;
    }

    /** A text as tokens; the last one is empty and stands at the length. */
    static final class Tokens {
        private static final Pattern SIGN = Pattern.compile(" *([0-9]+|[a-z]+|[^ ])", Pattern.DOTALL);
        final List<Token> all = new ArrayList<>();
        int next = 0;

        Tokens(String text) {
            Matcher m = SIGN.matcher(text);
            int from = 0;
            while (m.find(from)) {
                Token t = new Token();
                t.text = m.group(1);
                t.start = m.start(1);
                all.add(t);
                from = m.end();
            }
            Token end = new Token();
            end.text = "";
            end.start = text.length();
            all.add(end);
        }

        String peek() {
            return all.get(next).text;
        }

        int place() {
            return all.get(next).start;
        }

        boolean isNumber() {
            return peek().matches("[0-9]+");
        }

        Fault fault(int kind) {
            return new Fault(kind, place());
        }

        void sign(String s) {
            if (!peek().equals(s)) {
                throw fault(1);
            }
            next++;
        }

        int number(Set<Integer> good) {
            if (!isNumber()) {
                throw fault(1);
            }
            BigInteger value = new BigInteger(peek());
            if (value.bitLength() > 20 || !good.contains(value.intValue())) {
                throw fault(2);
            }
            next++;
            return value.intValue();
        }
    }

    static Set<Integer> range(int from, int to) {
        Set<Integer> all = new HashSet<>();
        for (int i = from; i <= to; i++) {
            all.add(i);
        }
        return all;
    }

    static final class Wire {
        int a;
        int b;
        int told;
    }

    static final class Told {
        int fields = 0;
        int pliers = 2;
        List<Wire> wires = new ArrayList<>();
        List<int[]> things = new ArrayList<>();
        List<int[]> persons = new ArrayList<>();
    }

    static final class State {
        int hour;
        int pliers;
        int crossings;
        int[] h;
        boolean[] cut;
        int[] lies;
        int[] by;
        int[] at;
        int[] tired;

        State copy() {
            State s = new State();
            s.hour = hour;
            s.pliers = pliers;
            s.crossings = crossings;
            s.h = h.clone();
            s.cut = cut.clone();
            s.lies = lies.clone();
            s.by = by.clone();
            s.at = at.clone();
            s.tired = tired.clone();
            return s;
        }
    }

    static final class Step {
        String word;
        int x;
        int y;
        List<Step> inner = new ArrayList<>();
    }

    static final class Image {
        State state;
        List<State> undo;
    }

    private StringBuilder tape = new StringBuilder();
    private Told c = new Told();
    private State s = begin(c);
    private ToIntFunction<int[]> law = v -> 1 + v[0] / 4;
    private Map<Integer, Integer> book = new HashMap<>();
    private List<State> undo = new ArrayList<>();
    private List<Image> images = new ArrayList<>();
    private int refused = 0;
    private int done = 0;
    private int begun = 0;
    private int faultPlace = NONE;
    private int missing = 0;
    private int wrong = 0;

    private static State begin(Told c) {
        State s = new State();
        s.pliers = c.pliers;
        s.h = c.wires.stream().mapToInt(w -> w.told).toArray();
        s.cut = new boolean[c.wires.size()];
        s.lies = c.things.stream().mapToInt(t -> t[0]).toArray();
        s.by = new int[c.things.size()];
        Arrays.fill(s.by, NONE);
        s.at = c.persons.stream().mapToInt(p -> p[0]).toArray();
        s.tired = new int[c.persons.size()];
        return s;
    }

    // texts

    public int feed(int a, int b, int c, int d, int e) {
        if (tape.length() + 20 > 600) {
            return NONE;
        }
        for (int x : new int[] {a, b, c, d, e}) {
            for (int i = 3; i >= 0; i--) {
                tape.append((char) (x >> 8 * i & 255));
            }
        }
        return tape.length();
    }

    private String text(int n, int most) {
        iae(n >= 0 && n <= most && n <= tape.length());
        String text = tape.substring(0, n);
        tape = new StringBuilder();
        faultPlace = NONE;
        return text;
    }

    private int fault(Fault f) {
        faultPlace = f.place;
        return f.kind - 10;
    }

    public int country(int n) {
        String text = text(n, 600);
        try {
            c = readCountry(new Tokens(text));
        } catch (Fault f) {
            return fault(f);
        }
        s = begin(c);
        law = v -> 1 + v[0] / 4;
        book = new HashMap<>();
        undo = new ArrayList<>();
        images = new ArrayList<>();
        refused = 0;
        return c.wires.size();
    }

    private static Told readCountry(Tokens t) {
        Told c = new Told();
        int clauses = 0;
        while (!t.peek().isEmpty()) {
            String word = t.peek();
            if (!Arrays.asList("fields", "wire", "thing", "person", "pliers").contains(word)) {
                throw t.fault(1);
            }
            if (++clauses > 60 || word.equals("wire") && c.wires.size() == 12
                    || word.equals("thing") && c.things.size() == 6
                    || word.equals("person") && c.persons.size() == 5) {
                throw t.fault(3);
            }
            t.next++;
            Set<Integer> known = range(0, c.fields - 1);
            if (word.equals("fields")) {
                c.fields += t.number(range(1, 8 - c.fields));
            } else if (word.equals("wire")) {
                Wire w = new Wire();
                w.a = t.number(known);
                known.remove(w.a);
                for (Wire other : c.wires) {
                    if (other.a == w.a) {
                        known.remove(other.b);
                    }
                    if (other.b == w.a) {
                        known.remove(other.a);
                    }
                }
                w.b = t.number(known);
                w.told = t.number(range(0, 99));
                c.wires.add(w);
            } else if (word.equals("thing")) {
                c.things.add(new int[] {t.number(known), t.number(range(1, 30))});
            } else if (word.equals("person")) {
                c.persons.add(new int[] {t.number(known), t.number(range(1, 40))});
            } else {
                c.pliers = t.number(range(0, 9));
            }
            t.sign(";");
        }
        return c;
    }

    public int law(int n) {
        String text = text(n, 150);
        try {
            Tokens t = new Tokens(text);
            ToIntFunction<int[]> read = sum(t, 0);
            t.sign("");
            law = read;
        } catch (Fault f) {
            return fault(f);
        }
        return 1;
    }

    private static ToIntFunction<int[]> sum(Tokens t, int open) {
        ToIntFunction<int[]> all = product(t, open);
        while (t.peek().equals("+") || t.peek().equals("-")) {
            boolean plus = t.peek().equals("+");
            t.next++;
            ToIntFunction<int[]> left = all;
            ToIntFunction<int[]> right = product(t, open);
            all = v -> plus ? left.applyAsInt(v) + right.applyAsInt(v) : left.applyAsInt(v) - right.applyAsInt(v);
        }
        return all;
    }

    private static ToIntFunction<int[]> product(Tokens t, int open) {
        ToIntFunction<int[]> all = unit(t, open);
        while (t.peek().matches("[*/%]")) {
            String sign = t.peek();
            t.next++;
            ToIntFunction<int[]> left = all;
            ToIntFunction<int[]> right = unit(t, open);
            all = v -> {
                long x = left.applyAsInt(v);
                long y = right.applyAsInt(v);
                if (sign.equals("*")) {
                    return (int) (x * y);
                }
                if (y == 0) {
                    return 0;
                }
                return sign.equals("/") ? (int) (x / y) : (int) (x % y);
            };
        }
        return all;
    }

    private static ToIntFunction<int[]> unit(Tokens t, int open) {
        if (t.isNumber()) {
            int number = t.number(range(0, 999));
            return v -> number;
        }
        String word = t.peek();
        int name = Arrays.asList("load", "strong", "tired", "left", "hour", "wires", "person").indexOf(word);
        if (name >= 0) {
            t.next++;
            return v -> v[name];
        }
        boolean choice = word.equals("least") || word.equals("most");
        if (!choice && !word.equals("(")) {
            throw t.fault(1);
        }
        if (open == 6) {
            throw t.fault(3);
        }
        t.next++;
        if (!choice) {
            ToIntFunction<int[]> inner = sum(t, open + 1);
            t.sign(")");
            return inner;
        }
        t.sign("[");
        ToIntFunction<int[]> one = sum(t, open + 1);
        t.sign(",");
        ToIntFunction<int[]> other = sum(t, open + 1);
        t.sign("]");
        return v -> word.equals("least") ? Math.min(one.applyAsInt(v), other.applyAsInt(v))
                : Math.max(one.applyAsInt(v), other.applyAsInt(v));
    }

    public int work(int n) {
        String text = text(n, 150);
        if (undo.size() == 16) {
            return -20;
        }
        List<Step> all;
        try {
            Tokens t = new Tokens(text);
            all = steps(t, 0);
            t.sign("");
        } catch (Fault f) {
            return fault(f);
        }
        undo.add(s.copy());
        refused = 0;
        done = 0;
        begun = 0;
        doAll(all);
        return done;
    }

    private List<Step> steps(Tokens t, int open) {
        List<Step> all = new ArrayList<>();
        while (!t.peek().isEmpty() && !(open > 0 && t.peek().equals("]"))) {
            Step step = new Step();
            step.word = t.peek();
            if (!Arrays.asList("lift", "set", "cross", "move", "cut", "hour", "again").contains(step.word)) {
                throw t.fault(1);
            }
            if (step.word.equals("again") && open == 6) {
                throw t.fault(3);
            }
            t.next++;
            Set<Integer> wires = range(0, c.wires.size() - 1);
            Set<Integer> persons = range(0, c.persons.size() - 1);
            switch (step.word) {
                case "lift":
                case "set":
                    step.x = t.number(persons);
                    step.y = t.number(range(0, c.things.size() - 1));
                    break;
                case "cross":
                    step.x = t.number(persons);
                    step.y = t.number(wires);
                    break;
                case "move":
                    step.x = t.number(wires);
                    step.y = t.number(range(1, 20));
                    break;
                case "cut":
                    step.x = t.number(wires);
                    break;
                case "again":
                    step.x = t.number(range(0, 40));
                    t.sign("[");
                    step.inner = steps(t, open + 1);
                    t.sign("]");
                    break;
                default:
                    break;
            }
            t.sign(";");
            all.add(step);
        }
        return all;
    }

    private void doAll(List<Step> all) {
        for (Step step : all) {
            if (begun == 200) {
                return;
            }
            begun++;
            if (step.word.equals("again")) {
                for (int i = 0; i < step.x; i++) {
                    doAll(step.inner);
                }
            } else if (doOne(s, step.word, step.x, step.y, 400)) {
                done++;
            } else {
                refused++;
            }
        }
    }

    private boolean doOne(State s, String word, int x, int y, int lastHour) {
        switch (word) {
            case "lift":
                if (s.by[y] != NONE || s.lies[y] != s.at[x] || load(s, x) + c.things.get(y)[1] > c.persons.get(x)[1]) {
                    return false;
                }
                s.by[y] = x;
                return true;
            case "set":
                if (s.by[y] != x) {
                    return false;
                }
                s.by[y] = NONE;
                s.lies[y] = s.at[x];
                return true;
            case "cross":
                Wire w = c.wires.get(y);
                if (live(s, y, s.hour) || w.a != s.at[x] && w.b != s.at[x] || s.tired[x] + toll(s, x, y) > 60) {
                    return false;
                }
                s.tired[x] += toll(s, x, y);
                s.at[x] = w.a + w.b - s.at[x];
                s.crossings++;
                return true;
            case "move":
                if (s.cut[x] || live(s, x, s.hour) || s.h[x] == 199) {
                    return false;
                }
                s.h[x] = Math.min(199, s.h[x] + y);
                return true;
            case "cut":
                if (s.cut[x] || s.pliers == 0) {
                    return false;
                }
                s.cut[x] = true;
                s.pliers--;
                return true;
            default:
                if (s.hour >= lastHour) {
                    return false;
                }
                s.hour++;
                for (int p = 0; p < s.tired.length; p++) {
                    s.tired[p] = Math.max(0, s.tired[p] - 5);
                }
                return true;
        }
    }

    public int book(int n) {
        String text = text(n, 60);
        try {
            Tokens t = new Tokens(text);
            Map<Integer, Integer> lines = new HashMap<>();
            while (!t.peek().isEmpty()) {
                Set<Integer> free = range(0, 40);
                free.removeAll(lines.keySet());
                int place = t.place();
                int k = t.number(free);
                if (lines.size() == 8) {
                    throw new Fault(3, place);
                }
                lines.put(k, t.number(range(0, 12)));
                t.sign(";");
            }
            book = lines;
        } catch (Fault f) {
            return fault(f);
        }
        return book.size();
    }

    public int fault() {
        return faultPlace;
    }

    public int undo() {
        if (undo.isEmpty()) {
            return -1;
        }
        s = undo.remove(undo.size() - 1);
        refused = 0;
        return undo.size();
    }

    // what is so

    private static boolean live(State s, int w, int hour) {
        return !s.cut[w] && hour >= s.h[w];
    }

    private int liveBits(State s, int hour) {
        int bits = 0;
        for (int w = 0; w < c.wires.size(); w++) {
            bits += live(s, w, hour) ? 1 << w : 0;
        }
        return bits;
    }

    private int load(State s, int p) {
        int sum = 0;
        for (int t = 0; t < s.by.length; t++) {
            sum += s.by[t] == p ? c.things.get(t)[1] : 0;
        }
        return sum;
    }

    private static int left(State s, int w) {
        if (s.cut[w]) {
            return 99;
        }
        return Math.max(0, Math.min(99, s.h[w] - s.hour));
    }

    private int toll(State s, int p, int w) {
        return tollBy(load(s, p), c.persons.get(p)[1], s.tired[p], left(s, w), s.hour, wiresAt(s.at[p]), p);
    }

    private int tollBy(int... values) {
        return Math.max(0, Math.min(40, law.applyAsInt(values)));
    }

    private int wiresAt(int f) {
        return (int) c.wires.stream().filter(w -> w.a == f || w.b == f).count();
    }

    private static int tiredSum(State s) {
        return Arrays.stream(s.tired).sum();
    }

    private static int carried(State s) {
        int bits = 0;
        for (int t = 0; t < s.by.length; t++) {
            bits += s.by[t] != NONE ? 1 << t : 0;
        }
        return bits;
    }

    public int told(int what) {
        iae(what >= 0 && what <= 11);
        int cut = 0;
        for (int w = 0; w < s.cut.length; w++) {
            cut += s.cut[w] ? 1 << w : 0;
        }
        return new int[] {c.fields, c.wires.size(), c.things.size(), c.persons.size(), s.hour, liveBits(s, s.hour),
            cut, s.pliers, carried(s), book.size(), refused, s.crossings}[what];
    }

    public int field(int f, int what) {
        nse(f, c.fields);
        iae(what >= 0 && what <= 3);
        int bits = 0;
        if (what == 0) {
            for (int t = 0; t < s.by.length; t++) {
                bits += s.by[t] == NONE && s.lies[t] == f ? 1 << t : 0;
            }
        } else if (what == 1) {
            for (int p = 0; p < s.at.length; p++) {
                bits += s.at[p] == f ? 1 << p : 0;
            }
        } else if (what == 2) {
            return wiresAt(f);
        } else {
            for (int w = 0; w < s.h.length; w++) {
                Wire x = c.wires.get(w);
                if (!live(s, w, s.hour) && (x.a == f || x.b == f)) {
                    bits |= 1 << (x.a == f ? x.b : x.a);
                }
            }
        }
        return bits;
    }

    public int wire(int w, int what) {
        nse(w, c.wires.size());
        iae(what >= 0 && what <= 6);
        Wire x = c.wires.get(w);
        return new int[] {x.a, x.b, s.h[w], x.told, live(s, w, s.hour) ? 1 : 0, s.cut[w] ? 1 : 0, left(s, w)}[what];
    }

    public int thing(int t, int what) {
        nse(t, c.things.size());
        iae(what >= 0 && what <= 2);
        return new int[] {c.things.get(t)[1], s.by[t] == NONE ? s.lies[t] : s.at[s.by[t]], s.by[t]}[what];
    }

    public int person(int p, int what) {
        nse(p, c.persons.size());
        iae(what >= 0 && what <= 4);
        int bits = 0;
        for (int t = 0; t < s.by.length; t++) {
            bits += s.by[t] == p ? 1 << t : 0;
        }
        return new int[] {c.persons.get(p)[1], s.at[p], s.tired[p], load(s, p), bits}[what];
    }

    public int toll(int p, int w) {
        nse(p, c.persons.size());
        nse(w, c.wires.size());
        return toll(s, p, w);
    }

    public int would(int load, int strong, int tired, int left, int hour, int wires, int person) {
        iae(load >= 0 && load <= 180 && strong >= 1 && strong <= 40 && tired >= 0 && tired <= 60 && left >= 0
                && left <= 99 && hour >= 0 && hour <= 400 && wires >= 0 && wires <= 12 && person >= 0 && person <= 4);
        return tollBy(load, strong, tired, left, hour, wires, person);
    }

    public boolean can(int p, int w) {
        nse(p, c.persons.size());
        nse(w, c.wires.size());
        return doOne(s.copy(), "cross", p, w, 400);
    }

    // questions

    public int ahead(int n, int what) {
        iae(n >= 0 && n <= 99 && what >= 0 && what <= 2);
        State then = s.copy();
        for (int i = 0; i < n; i++) {
            doOne(then, "hour", 0, 0, Integer.MAX_VALUE);
        }
        if (what == 0) {
            return liveBits(then, then.hour);
        }
        if (what == 1) {
            return tiredSum(then);
        }
        for (int w = 0; w < then.h.length; w++) {
            if (!then.cut[w] && then.h[w] == then.hour) {
                return w;
            }
        }
        return NONE;
    }

    /** Where one can be after so many hours, for 0 to 20 of them. */
    private List<Set<Integer>> walk(State s, int from, int hour) {
        List<Set<Integer>> all = new ArrayList<>();
        Set<Integer> now = new HashSet<>(List.of(from));
        all.add(now);
        for (int i = 0; i < 100; i++) {
            Set<Integer> next = new HashSet<>(now);
            for (int w = 0; w < s.h.length; w++) {
                Wire x = c.wires.get(w);
                if (!live(s, w, hour + i)) {
                    if (now.contains(x.a)) {
                        next.add(x.b);
                    }
                    if (now.contains(x.b)) {
                        next.add(x.a);
                    }
                }
            }
            all.add(next);
            now = next;
        }
        return all;
    }

    private int arrival(State s, int from, int to, int hour) {
        List<Set<Integer>> all = walk(s, from, hour);
        for (int i = 0; i < all.size(); i++) {
            if (all.get(i).contains(to)) {
                return i;
            }
        }
        return NONE;
    }

    private void twoFields(int f, int g) {
        nse(f, c.fields);
        nse(g, c.fields);
    }

    public int arrives(int f, int g) {
        twoFields(f, g);
        return arrival(s, f, g, s.hour);
    }

    public int waits(int f, int g) {
        twoFields(f, g);
        int most = NONE;
        for (int d = 0; d <= 200; d++) {
            if (arrival(s, f, g, s.hour + d) != NONE) {
                most = d;
            }
        }
        return most;
    }

    public int grant(int f, int g) {
        twoFields(f, g);
        for (int n = 0; n <= 200; n++) {
            State later = s.copy();
            for (int w = 0; w < later.h.length; w++) {
                later.h[w] += n;
            }
            if (arrival(later, f, g, s.hour) != NONE) {
                return n;
            }
        }
        return NONE;
    }

    public int pliers(int f, int g) {
        twoFields(f, g);
        int best = NONE;
        for (int bits = 0; bits < 1 << s.h.length; bits++) {
            boolean fresh = true;
            int[] group = range(0, c.fields - 1).stream().mapToInt(i -> i).toArray();
            for (int w = 0; w < s.h.length; w++) {
                boolean in = (bits >> w & 1) == 1;
                fresh &= !(in && s.cut[w]);
                if (in || s.cut[w]) {
                    join(group, c.wires.get(w));
                }
            }
            if (fresh && group[f] == group[g] && (best == NONE || Integer.bitCount(bits) < Integer.bitCount(best))) {
                best = bits;
            }
        }
        return best;
    }

    private static void join(int[] group, Wire w) {
        int from = group[w.a];
        int to = group[w.b];
        for (int i = 0; i < group.length; i++) {
            group[i] = group[i] == from ? to : group[i];
        }
    }

    public int haul(int p, int what) {
        nse(p, c.persons.size());
        iae(what >= 0 && what <= 1);
        int best = 0;
        int most = 0;
        for (int bits = 0; bits < 1 << s.by.length; bits++) {
            State then = s.copy();
            boolean all = true;
            int sum = 0;
            for (int t = 0; t < s.by.length; t++) {
                if ((bits >> t & 1) == 1) {
                    all &= doOne(then, "lift", p, t, 400);
                    sum += c.things.get(t)[1];
                }
            }
            if (all && sum > most) {
                most = sum;
                best = bits;
            }
        }
        return what == 0 ? most : best;
    }

    private List<int[]> fitting() {
        List<int[]> pairs = new ArrayList<>();
        for (int w = 0; w < s.h.length; w++) {
            for (int n = 1; n <= 20; n++) {
                int[] pair = {w, n};
                if (!s.cut[w] && book.entrySet().stream().allMatch(e -> liveIf(pair, e.getKey()) == e.getValue())) {
                    pairs.add(pair);
                }
            }
        }
        return pairs;
    }

    private int liveIf(int[] pair, int k) {
        State then = s.copy();
        then.h[pair[0]] += pair[1];
        return Integer.bitCount(liveBits(then, s.hour + k));
    }

    public int fits(int what) {
        iae(what >= 0 && what <= 1);
        List<int[]> pairs = fitting();
        if (what == 0) {
            return pairs.size();
        }
        return pairs.isEmpty() ? NONE : 100 * pairs.get(0)[0] + pairs.get(0)[1];
    }

    public int look(int what) {
        iae(what >= 0 && what <= 1);
        List<int[]> pairs = fitting();
        int best = NONE;
        int least = Integer.MAX_VALUE;
        for (int k = 0; k <= 40; k++) {
            if (!book.containsKey(k)) {
                int[] counts = new int[13];
                for (int[] pair : pairs) {
                    counts[liveIf(pair, k)]++;
                }
                int worst = Arrays.stream(counts).max().getAsInt();
                if (worst < least) {
                    least = worst;
                    best = k;
                }
            }
        }
        return what == 0 ? best : least;
    }

    public int parts(int n) {
        iae(n >= 0 && n <= 99);
        int[] group = range(0, c.fields - 1).stream().mapToInt(i -> i).toArray();
        for (int w = 0; w < s.h.length; w++) {
            if (!live(s, w, s.hour + n)) {
                join(group, c.wires.get(w));
            }
        }
        return (int) Arrays.stream(group).distinct().count();
    }

    public long tingle(int n, int q, int part) {
        iae(n >= 0 && n <= 12 && q >= 0 && q <= 16 && part >= 0 && part <= 1);
        BigInteger above = BigInteger.ZERO;
        for (int bits = 0; bits < 1 << n; bits++) {
            if (Integer.bitCount(bits) == 1) {
                BigInteger one = BigInteger.ONE;
                for (int i = 0; i < n; i++) {
                    one = one.multiply(BigInteger.valueOf((bits >> i & 1) == 1 ? q : 16 - q));
                }
                above = above.add(one);
            }
        }
        BigInteger below = BigInteger.valueOf(16).pow(n);
        BigInteger common = above.gcd(below);
        return (part == 0 ? above : below).divide(common).longValueExact();
    }

    public int lean(int v, int w, int what) {
        iae(v >= 0 && v <= 99 && w >= 0 && w <= 99 && what >= 0 && what <= 2);
        int[][] mine = {{v, -w}, {0, 0}};
        List<Integer> rests = new ArrayList<>();
        for (int a = 0; a < 2; a++) {
            for (int b = 0; b < 2; b++) {
                if (mine[1 - a][b] <= mine[a][b] && mine[1 - b][a] <= mine[b][a]) {
                    rests.add(10 * a + b);
                }
            }
        }
        if (what == 0) {
            return rests.size();
        }
        int first = rests.isEmpty() ? NONE : rests.get(0);
        if (what == 1) {
            return first;
        }
        return first == NONE ? 0 : mine[first / 10][first % 10] + mine[first % 10][first / 10];
    }

    public int grace(int wire, int wires, int n) {
        nse(wire, c.wires.size());
        iae(wires >= 0 && wires < 1 << c.wires.size() && n >= 0 && n <= 999);
        int[] got = new int[c.wires.size()];
        for (int bound = 0; bound <= 2000; bound++) {
            int[] next = new int[got.length];
            for (int w = 0; w < got.length; w++) {
                next[w] = (wires >> w & 1) == 1 ? Math.min(bound, left(s, w)) : 0;
            }
            if (Arrays.stream(next).sum() <= n) {
                got = next;
            }
        }
        return got[wire];
    }

    public int next(int what) {
        iae(what >= 0 && what <= 1);
        for (int hours = 1; hours < 300; hours++) {
            for (int w = 0; w < s.h.length; w++) {
                if (!s.cut[w] && s.h[w] == s.hour + hours) {
                    return what == 0 ? w : hours;
                }
            }
        }
        return NONE;
    }

    public int harp(int what) {
        iae(what >= 0 && what <= 1);
        for (int many = 12; many >= 0; many--) {
            for (int f = 0; f < c.fields; f++) {
                if (wiresAt(f) == many) {
                    return what == 0 ? f : many;
                }
            }
        }
        return NONE;
    }

    public int stuck() {
        int bits = 0;
        for (int p = 0; p < s.at.length; p++) {
            boolean some = false;
            for (int w = 0; w < s.h.length; w++) {
                some |= doOne(s.copy(), "cross", p, w, 400);
            }
            bits += some ? 0 : 1 << p;
        }
        return bits;
    }

    public int moved() {
        int bits = 0;
        for (int w = 0; w < s.h.length; w++) {
            bits += s.h[w] != c.wires.get(w).told ? 1 << w : 0;
        }
        return bits;
    }

    public int gates(int f, int what) {
        nse(f, c.fields);
        iae(what >= 0 && what <= 2);
        int bits = 0;
        for (int w = 0; w < s.h.length; w++) {
            int kind = s.cut[w] ? 1 : live(s, w, s.hour) ? 0 : 2;
            bits += kind == what && (c.wires.get(w).a == f || c.wires.get(w).b == f) ? 1 << w : 0;
        }
        return bits;
    }

    public int ground(int f, int n) {
        nse(f, c.fields);
        iae(n >= 0 && n <= 99);
        return walk(s, f, s.hour).get(n).stream().mapToInt(g -> 1 << g).sum();
    }

    public int freest(int what) {
        iae(what >= 0 && what <= 1);
        for (int much = 40; much >= 0; much--) {
            for (int p = 0; p < s.at.length; p++) {
                if (c.persons.get(p)[1] - load(s, p) == much) {
                    return what == 0 ? p : much;
                }
            }
        }
        return NONE;
    }

    // autumns

    private long seed;

    private int draw(int by) {
        seed = seed * 1103515245L + 12345L & 0xffffffffL;
        return (int) (seed >> 16 & 0x7fff) % by;
    }

    private State after(int firstSeed, int q, int hours) {
        State then = s.copy();
        seed = firstSeed & 0xffffffffL;
        for (int i = 0; i < hours; i++) {
            if (!c.persons.isEmpty() && !c.wires.isEmpty()) {
                int p = draw(c.persons.size());
                int w = draw(c.wires.size());
                doOne(then, "cross", p, w, 400);
                if (!c.things.isEmpty()) {
                    doOne(then, "lift", p, draw(c.things.size()), 400);
                }
                if (draw(16) < q) {
                    doOne(then, "move", w, 3, 400);
                }
            }
            doOne(then, "hour", 0, 0, Integer.MAX_VALUE);
        }
        return then;
    }

    public int autumn(int seed, int q, int hours, int what) {
        iae(q >= 0 && q <= 16 && hours >= 1 && hours <= 96 && what >= 0 && what <= 3);
        State then = after(seed, q, hours);
        return new int[] {then.crossings - s.crossings, carried(then), liveBits(then, then.hour), tiredSum(then)}[what];
    }

    public int span(int seed, int many, int q, int hours, int what, int person) {
        iae(many >= 1 && many <= 20 && q >= 0 && q <= 16 && hours >= 1 && hours <= 96 && what >= 0 && what <= 2
                && person >= 0 && person < c.persons.size());
        List<Integer> crossings = new ArrayList<>();
        int elsewhere = 0;
        for (int i = 0; i < many; i++) {
            State then = after(seed + i, q, hours);
            crossings.add(then.crossings - s.crossings);
            elsewhere += then.at[person] != s.at[person] ? 1 : 0;
        }
        crossings.sort(null);
        return new int[] {crossings.get(0), crossings.get(many - 1), elsewhere}[what];
    }

    // what is kept

    public int image() {
        if (images.size() == 3) {
            return -1;
        }
        Image image = new Image();
        image.state = s.copy();
        image.undo = new ArrayList<>();
        for (State each : undo) {
            image.undo.add(each.copy());
        }
        images.add(image);
        return images.size();
    }

    public int restore() {
        if (images.isEmpty()) {
            return -1;
        }
        Image image = images.remove(images.size() - 1);
        s = image.state;
        undo = image.undo;
        refused = 0;
        return images.size();
    }

    public int status(int what) {
        return what == 0 ? missing : what == 1 ? wrong : NONE;
    }

    public int count(int what) {
        return what == 0 ? images.size() : what == 1 ? tape.length() : what == 2 ? undo.size() : NONE;
    }

    private void nse(int number, int many) {
        if (number < 0 || number >= many) {
            missing++;
            throw new NoSuchElementException();
        }
    }

    private void iae(boolean right) {
        if (!right) {
            wrong++;
            throw new IllegalArgumentException();
        }
    }
}
