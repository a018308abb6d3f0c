import java.util.ArrayList;
import java.util.List;
import java.util.NoSuchElementException;

/**
 * The document said once more, as simply as can be: every time is looked at by itself, and texts
 * are read byte by byte. The fuzz test holds FactLines against it.
 */
public final class Model {
    static final int NONE = -1;

    interface Node { }

    record Num(int value) implements Node { }

    record Ref(int thing) implements Node { }

    record Bracket(Node inside) implements Node { }

    record Two(String sign, Node a, Node b) implements Node { }

    record Fact(int thing, int source, int from, int to, int value, boolean withdrawn) {
        Fact ending(int time) {
            return new Fact(thing, source, from, time, value, withdrawn);
        }
    }

    record Source(int rank, boolean silent) { }

    record State(List<Source> sources, List<Fact> facts, Node[] rules) {
        State copy() {
            return new State(new ArrayList<>(sources), new ArrayList<>(facts), rules.clone());
        }
    }

    static final class Wrong extends Exception {
        private static final long serialVersionUID = 1;

        final int at;
        final int why;

        Wrong(int at, int why) {
            this.at = at;
            this.why = why;
        }
    }

    private State s = new State(new ArrayList<>(), new ArrayList<>(), new Node[8]);
    private State image;
    private final List<State> past = new ArrayList<>();
    private final List<Integer> tape = new ArrayList<>();
    private int fault = NONE;
    private int why;
    private int[][] bestCache;
    private int[][] isCache;

    // ---- texts ----

    public int feed(int a, int b, int c, int d, int e) {
        if (tape.size() > 380) return NONE;
        for (int n : new int[] {a, b, c, d, e}) {
            for (int i = 3; i >= 0; i--) tape.add(n >> 8 * i & 0xff);
        }
        return tape.size();
    }

    public boolean end(int n) {
        if (n < 0 || n > tape.size()) return false;
        tape.subList(n, tape.size()).clear();
        return true;
    }

    public int fault() {
        return fault;
    }

    public int why() {
        return why;
    }

    private String text;
    private int pos;
    private int atoms;

    public int acts() {
        StringBuilder sb = new StringBuilder();
        for (int b : tape) sb.append((char) b);
        tape.clear();
        text = sb.toString();
        pos = 0;
        fault = NONE;
        State ahead = s.copy();
        try {
            int n = 0;
            if (peek() != 0) {
                while (true) {
                    int begin = begin();
                    if (n == 14) throw new Wrong(begin, 0);
                    oneAct(begin);
                    n++;
                    if (peek() == 0) break;
                    if (peek() != ';') throw new Wrong(begin(), 0);
                    pos++;
                }
            }
            past.clear();
            if (n > 0) why = 0;
            changed();
            return n;
        } catch (Wrong w) {
            s = ahead;
            changed();
            fault = w.at;
            if (w.why != 0) why = w.why;
            throw new IllegalArgumentException();
        }
    }

    private int begin() {
        while (pos < text.length() && text.charAt(pos) == ' ') pos++;
        return pos;
    }

    private char peek() {
        return begin() < text.length() ? (text.charAt(pos) == 0 ? 1 : text.charAt(pos)) : 0;
    }

    private String peekWord() {
        int i = begin();
        while (i < text.length() && text.charAt(i) >= 'a' && text.charAt(i) <= 'z') i++;
        return text.substring(pos, i);
    }

    private void need(String word) throws Wrong {
        if (!peekWord().equals(word)) throw new Wrong(begin(), 0);
        pos += word.length();
    }

    private int num(int low, int high) throws Wrong {
        int begin = begin();
        int i = begin;
        while (i < text.length() && Character.isDigit(text.charAt(i)) && text.charAt(i) < 128) i++;
        if (i == begin || i - begin > 4) throw new Wrong(begin, 0);
        int n = Integer.parseInt(text.substring(begin, i));
        if (n < low || n > high) throw new Wrong(begin, 0);
        pos = i;
        return n;
    }

    private void oneAct(int begin) throws Wrong {
        String word = peekWord();
        pos += word.length();
        int r;
        switch (word) {
            case "source" -> r = doSource(num(0, 99));
            case "fact" -> r = doFact(num(0, 7), num(0, 7), num(0, 999), num(1, 1000), num(0, 99));
            case "drop" -> r = doDrop(num(0, 59));
            case "hush" -> r = doHush(num(0, 7), true);
            case "hear" -> r = doHush(num(0, 7), false);
            case "rank" -> r = doRank(num(0, 7), num(0, 99));
            case "cut" -> {
                int thing = num(0, 7);
                need("at");
                r = doCut(thing, num(1, 999));
            }
            case "rule" -> {
                int thing = num(0, 7);
                if (peekWord().equals("off")) {
                    pos += 3;
                    r = doOff(thing);
                } else {
                    need("is");
                    atoms = 0;
                    s.rules[thing] = rule(thing, 0);
                    r = 0;
                }
            }
            default -> throw new Wrong(begin, 0);
        }
        if (r != 0) throw new Wrong(begin, r);
    }

    private Node rule(int thing, int depth) throws Wrong {
        Node a = part(thing, depth);
        while (true) {
            String sign = peek() == '+' || peek() == '-' ? "" + peek() : peekWord();
            if (!List.of("+", "-", "min", "max").contains(sign)) return a;
            pos += sign.length();
            a = new Two(sign, a, part(thing, depth));
        }
    }

    private Node part(int thing, int depth) throws Wrong {
        Node a = atom(thing, depth);
        while (true) {
            String sign = peekWord();
            if (!List.of("else", "while", "unless").contains(sign)) return a;
            pos += sign.length();
            a = new Two(sign, a, atom(thing, depth));
        }
    }

    private Node atom(int thing, int depth) throws Wrong {
        int begin = begin();
        if (peek() == '(') {
            if (depth == 4) throw new Wrong(begin, 0);
            pos++;
            Node inside = rule(thing, depth + 1);
            if (peek() != ')') throw new Wrong(begin(), 0);
            pos++;
            return new Bracket(inside);
        }
        if (atoms == 12) throw new Wrong(begin, 0);
        atoms++;
        if (peekWord().isEmpty()) return new Num(num(0, 99));
        need("thing");
        return new Ref(num(0, thing - 1));
    }

    // ---- acts: the number by which each is refused, or 0 ----

    private int doSource(int rank) {
        if (s.sources.size() == 8) return 1;
        s.sources.add(new Source(rank, false));
        return 0;
    }

    private boolean noSource(int n) {
        return n < 0 || n >= s.sources.size();
    }

    private int doFact(int thing, int source, int from, int to, int value) {
        if (noSource(source)) return 2;
        if (from >= to) return 3;
        if (s.facts.size() == 60) return 4;
        s.facts.add(new Fact(thing, source, from, to, value, false));
        return 0;
    }

    private int doDrop(int n) {
        if (n < 0 || n >= s.facts.size() || s.facts.get(n).withdrawn) return 5;
        Fact f = s.facts.get(n);
        s.facts.set(n, new Fact(f.thing, f.source, f.from, f.to, f.value, true));
        return 0;
    }

    private int doHush(int n, boolean silent) {
        if (noSource(n)) return 2;
        if (s.sources.get(n).silent == silent) return 6;
        s.sources.set(n, new Source(s.sources.get(n).rank, silent));
        return 0;
    }

    private int doRank(int n, int rank) {
        if (noSource(n)) return 2;
        s.sources.set(n, new Source(rank, s.sources.get(n).silent));
        return 0;
    }

    private int doCut(int thing, int time) {
        List<Integer> hit = new ArrayList<>();
        for (int i = 0; i < s.facts.size(); i++) {
            Fact f = s.facts.get(i);
            if (f.thing == thing && !f.withdrawn && f.from < time && f.to > time) hit.add(i);
        }
        if (hit.isEmpty()) return 6;
        if (s.facts.size() + hit.size() > 60) return 4;
        for (int i : hit) {
            Fact f = s.facts.get(i);
            s.facts.set(i, f.ending(time));
            s.facts.add(new Fact(thing, f.source, time, f.to, f.value, false));
        }
        return 0;
    }

    private int doOff(int thing) {
        if (s.rules[thing] == null) return 6;
        s.rules[thing] = null;
        return 0;
    }

    private void changed() {
        bestCache = null;
        isCache = null;
    }

    private void done(State ahead, int r) {
        why = r;
        if (r != 0) throw new IllegalStateException();
        past.add(ahead);
        if (past.size() > 8) past.remove(0);
        changed();
    }

    private static void arg(boolean fine) {
        if (!fine) throw new IllegalArgumentException();
    }

    private static void index(boolean fine) {
        if (!fine) throw new IndexOutOfBoundsException();
    }

    private static void element(boolean fine) {
        if (!fine) throw new NoSuchElementException();
    }

    private static boolean in(int n, int low, int high) {
        return low <= n && n <= high;
    }

    public int source(int rank) {
        arg(in(rank, 0, 99));
        State a = s.copy();
        done(a, doSource(rank));
        return s.sources.size() - 1;
    }

    public int fact(int thing, int source, int from, int to, int value) {
        index(in(thing, 0, 7));
        arg(in(from, 0, 1000) && in(to, 0, 1000) && in(value, 0, 99));
        State a = s.copy();
        done(a, doFact(thing, source, from, to, value));
        return s.facts.size() - 1;
    }

    public int drop(int fact) {
        int reign = in(fact, 0, s.facts.size() - 1) ? reign(fact) : 0;
        State a = s.copy();
        done(a, doDrop(fact));
        return reign;
    }

    public int hush(int source, boolean heard) {
        State a = s.copy();
        done(a, doHush(source, !heard));
        return heard(source, 2);
    }

    public int rank(int source, int rank) {
        arg(in(rank, 0, 99));
        State a = s.copy();
        done(a, doRank(source, rank));
        return a.sources.get(source).rank;
    }

    public int cut(int thing, int time) {
        index(in(thing, 0, 7));
        arg(in(time, 1, 999));
        State a = s.copy();
        done(a, doCut(thing, time));
        return s.facts.size() - a.facts.size();
    }

    public int off(int thing) {
        index(in(thing, 0, 7));
        State a = s.copy();
        done(a, doOff(thing));
        return leaves(a.rules[thing]);
    }

    public int undo() {
        if (past.isEmpty()) throw new IllegalStateException();
        s = past.remove(past.size() - 1);
        changed();
        return past.size();
    }

    // ---- what things are ----

    private boolean holds(Fact f, int time) {
        return !f.withdrawn && !s.sources.get(f.source).silent && f.from <= time && time < f.to;
    }

    private boolean beats(int i, int j) {
        Fact f = s.facts.get(i);
        Fact g = s.facts.get(j);
        int[] a = {s.sources.get(f.source).rank, -f.source, f.from - f.to, f.from, f.value, -i};
        int[] b = {s.sources.get(g.source).rank, -g.source, g.from - g.to, g.from, g.value, -j};
        for (int k = 0; k < a.length; k++) {
            if (k == 2 && f.source != g.source) throw new AssertionError();
            if (a[k] != b[k]) return a[k] > b[k];
        }
        return false;
    }

    private int[][] bests(int n, int without) {
        int[][] best = new int[8][1000];
        for (int[] row : best) java.util.Arrays.fill(row, NONE);
        for (int i = 0; i < n; i++) {
            Fact f = s.facts.get(i);
            for (int time = f.from; time < f.to && i != without; time++) {
                int b = best[f.thing][time];
                if (holds(f, time) && (b == NONE || beats(i, b))) best[f.thing][time] = i;
            }
        }
        return best;
    }

    private int[][] values(int[][] best) {
        int[][] is = new int[8][1000];
        for (int thing = 0; thing < 8; thing++) {
            for (int time = 0; time < 1000; time++) {
                int b = best[thing][time];
                is[thing][time] = b != NONE ? s.facts.get(b).value
                        : s.rules[thing] == null ? NONE : value(s.rules[thing], is, time);
            }
        }
        return is;
    }

    private int value(Node node, int[][] is, int time) {
        if (node instanceof Num n) return n.value;
        if (node instanceof Ref r) return is[r.thing][time];
        if (node instanceof Bracket b) return value(b.inside, is, time);
        Two two = (Two) node;
        int a = value(two.a, is, time);
        int b = value(two.b, is, time);
        switch (two.sign) {
            case "else": return a == NONE ? b : a;
            case "while": return b == NONE ? NONE : a;
            case "unless": return b == NONE ? a : NONE;
            default: break;
        }
        if (a == NONE || b == NONE) return NONE;
        int c = switch (two.sign) {
            case "+" -> a + b;
            case "-" -> a - b;
            case "min" -> a < b ? a : b;
            default -> a > b ? a : b;
        };
        return in(c, 0, 99) ? c : NONE;
    }

    private int[][] best() {
        if (bestCache == null) bestCache = bests(s.facts.size(), NONE);
        return bestCache;
    }

    private int[][] is() {
        if (isCache == null) isCache = values(best());
        return isCache;
    }

    private static void place(int thing, int time) {
        index(in(thing, 0, 7) && in(time, 0, 999));
    }

    public int at(int thing, int time) {
        place(thing, time);
        return is()[thing][time];
    }

    public int by(int thing, int time, int how) {
        place(thing, time);
        element(in(how, 0, 2));
        int b = best()[thing][time];
        if (how == 0) return b;
        if (how == 1) return b == NONE ? NONE : s.facts.get(b).source;
        return b != NONE ? 0 : at(thing, time) != NONE ? 1 : 2;
    }

    public int beneath(int thing, int time, int k) {
        place(thing, time);
        List<Integer> all = new ArrayList<>();
        for (int i = 0; i < s.facts.size(); i++) {
            if (s.facts.get(i).thing == thing && holds(s.facts.get(i), time)) all.add(i);
        }
        all.sort((i, j) -> i.equals(j) ? 0 : beats(i, j) ? -1 : 1);
        return k == NONE ? all.size() : in(k, 0, all.size() - 1) ? all.get(k) : NONE;
    }

    /** Rows of {from, to} at which a thing is the same, spans or gaps. */
    private List<int[]> rows(int thing, boolean gap) {
        List<int[]> rows = new ArrayList<>();
        int[] line = is()[thing];
        int from = 0;
        for (int time = 1; time <= 1000; time++) {
            if (time == 1000 || line[time] != line[from]) {
                if ((line[from] == NONE) == gap) rows.add(new int[] {from, time});
                from = time;
            }
        }
        return rows;
    }

    private int row(int thing, int k, int what, boolean gap) {
        List<int[]> rows = rows(thing, gap);
        if (k == NONE) return rows.size();
        if (!in(k, 0, rows.size() - 1)) return NONE;
        return what < 2 ? rows.get(k)[what] : is()[thing][rows.get(k)[0]];
    }

    public int span(int thing, int k, int what) {
        index(in(thing, 0, 7));
        element(in(what, 0, 2));
        return row(thing, k, what, false);
    }

    public int gap(int thing, int k, int what) {
        index(in(thing, 0, 7));
        element(in(what, 0, 1));
        return row(thing, k, what, true);
    }

    private int lackEnd;

    public int lack(int thing, int time, int k) {
        place(thing, time);
        if (at(thing, time) != NONE) return NONE;
        List<Integer> row = new ArrayList<>();
        lackThing(thing, time, row);
        if (k == -1) return row.size();
        if (k == -2) return lackEnd;
        return in(k, 0, row.size() - 1) ? row.get(k) : NONE;
    }

    private void lackThing(int thing, int time, List<Integer> row) {
        row.add(thing);
        lackEnd = 0;
        if (s.rules[thing] != null) lackNode(s.rules[thing], time, row);
    }

    private void lackNode(Node node, int time, List<Integer> row) {
        if (node instanceof Ref r) {
            lackThing(r.thing, time, row);
        } else if (node instanceof Bracket b) {
            lackNode(b.inside, time, row);
        } else {
            Two two = (Two) node;
            boolean a = value(two.a, is(), time) == NONE;
            boolean b = value(two.b, is(), time) == NONE;
            switch (two.sign) {
                case "else" -> lackNode(two.b, time, row);
                case "while" -> lackNode(b ? two.b : two.a, time, row);
                case "unless" -> {
                    if (b) lackNode(two.a, time, row);
                    else lackEnd = 2;
                }
                default -> {
                    if (a) lackNode(two.a, time, row);
                    else if (b) lackNode(two.b, time, row);
                    else lackEnd = 1;
                }
            }
        }
    }

    public int change(int thing, int time, boolean back) {
        place(thing, time);
        int t = time;
        if (back) {
            while (t > 0 && at(thing, t - 1) == at(thing, time)) t--;
            return t;
        }
        while (t < 1000 && at(thing, t) == at(thing, time)) t++;
        return t == 1000 ? NONE : t;
    }

    public int run(int thing, int time) {
        place(thing, time);
        for (boolean gap : new boolean[] {true, false}) {
            for (int[] row : rows(thing, gap)) {
                if (in(time, row[0], row[1] - 1)) return row[1] - row[0];
            }
        }
        throw new AssertionError();
    }

    public int first(int thing, int time, int value) {
        place(thing, time);
        arg(in(value, 0, 99));
        for (int t = time; t < 1000; t++) if (at(thing, t) == value) return t;
        return NONE;
    }

    private int reign(int fact) {
        int n = 0;
        for (int b : best()[s.facts.get(fact).thing]) if (b == fact) n++;
        return n;
    }

    public int told(int fact, int what) {
        index(in(fact, 0, s.facts.size() - 1));
        element(in(what, 0, 7));
        Fact f = s.facts.get(fact);
        if (what < 7) {
            return new int[] {f.thing, f.source, f.from, f.to, f.value, f.withdrawn ? 1 : 0, reign(fact)}[what];
        }
        if (f.withdrawn) return NONE;
        int[][] without = values(bests(s.facts.size(), fact));
        int n = 0;
        for (int thing = 0; thing < 8; thing++) {
            for (int time = 0; time < 1000; time++) if (without[thing][time] != is()[thing][time]) n++;
        }
        return n;
    }

    private static int lies(int a, int b, int c, int d) {
        if (b < c) return 0;
        if (b == c) return 1;
        if (a == d) return 11;
        if (a > d) return 12;
        if (a < c) return b < d ? 2 : b == d ? 3 : 4;
        if (a == c) return b < d ? 5 : b == d ? 6 : 7;
        return b < d ? 8 : b == d ? 9 : 10;
    }

    public int how(int fact, int other) {
        index(in(fact, 0, s.facts.size() - 1) && in(other, 0, s.facts.size() - 1));
        arg(fact != other);
        Fact f = s.facts.get(fact);
        Fact g = s.facts.get(other);
        return lies(f.from, f.to, g.from, g.to);
    }

    public int heard(int source, int what) {
        index(in(source, 0, s.sources.size() - 1));
        element(in(what, 0, 3));
        if (what == 0) return s.sources.get(source).rank;
        if (what == 1) return s.sources.get(source).silent ? 1 : 0;
        int facts = 0;
        int voice = 0;
        for (int i = 0; i < s.facts.size(); i++) {
            if (s.facts.get(i).source == source) {
                if (!s.facts.get(i).withdrawn) facts++;
                voice += reign(i);
            }
        }
        return what == 2 ? facts : voice;
    }

    public int accord(int source, int other) {
        index(in(source, 0, s.sources.size() - 1) && in(other, 0, s.sources.size() - 1));
        arg(source != other);
        int both = 0;
        int same = 0;
        for (int thing = 0; thing < 8; thing++) {
            int[] a = bestsBy(source, thing);
            int[] b = bestsBy(other, thing);
            for (int time = 0; time < 1000; time++) {
                if (a[time] == NONE || b[time] == NONE) continue;
                both++;
                if (s.facts.get(a[time]).value == s.facts.get(b[time]).value) same++;
            }
        }
        return both == 0 ? 100 : (int) Math.floor(same * 100.0 / both + 1e-9);
    }

    private int[] bestsBy(int source, int thing) {
        int[] best = new int[1000];
        java.util.Arrays.fill(best, NONE);
        for (int i = 0; i < s.facts.size(); i++) {
            Fact f = s.facts.get(i);
            for (int t = f.from; t < f.to && f.source == source && f.thing == thing; t++) {
                if (holds(f, t) && (best[t] == NONE || beats(i, best[t]))) best[t] = i;
            }
        }
        return best;
    }

    public int together(int thing, int other) {
        index(in(thing, 0, 7) && in(other, 0, 7));
        int n = 0;
        for (int t = 0; t < 1000; t++) if (at(thing, t) != NONE && at(other, t) != NONE) n++;
        return n;
    }

    private static int leaves(Node node) {
        if (node instanceof Bracket b) return leaves(b.inside);
        return node instanceof Two two ? leaves(two.a) + leaves(two.b) : 1;
    }

    private static int bits(Node node) {
        if (node instanceof Bracket b) return bits(b.inside);
        if (node instanceof Two two) return bits(two.a) | bits(two.b);
        return node instanceof Ref r ? 1 << r.thing : 0;
    }

    public int thing(int thing, int what) {
        index(in(thing, 0, 7));
        element(in(what, 0, 6));
        int facts = 0;
        for (Fact f : s.facts) if (f.thing == thing && !f.withdrawn) facts++;
        int dispute = 0;
        int sum = 0;
        int[] times = new int[100];
        for (int t = 0; t < 1000; t++) {
            if (what == 2 && disputed(thing, t)) dispute++;
            int v = is()[thing][t];
            if (v != NONE) {
                sum += v;
                times[v]++;
            }
        }
        int mode = NONE;
        for (int v = 99; v >= 0; v--) if (times[v] > 0 && (mode == NONE || times[v] >= times[mode])) mode = v;
        Node rule = s.rules[thing];
        return switch (what) {
            case 0 -> facts;
            case 1 -> together(thing, thing);
            case 2 -> dispute;
            case 3 -> sum;
            case 4 -> rule == null ? NONE : leaves(rule);
            case 5 -> rule == null ? 0 : bits(rule);
            default -> mode;
        };
    }

    private boolean disputed(int thing, int time) {
        for (Fact f : s.facts) {
            if (f.thing != thing || !holds(f, time)) continue;
            for (Fact g : s.facts) {
                if (g.thing == thing && g.source != f.source && g.value != f.value && holds(g, time)) return true;
            }
        }
        return false;
    }

    public int often(int thing, int value) {
        index(in(thing, 0, 7));
        arg(in(value, 0, 99));
        int n = 0;
        for (int v : is()[thing]) if (v == value) n++;
        return n;
    }

    public int nearest(int thing, int time) {
        place(thing, time);
        for (int d = 0; d < 1000; d++) {
            if (time - d >= 0 && at(thing, time - d) != NONE) return time - d;
            if (time + d < 1000 && at(thing, time + d) != NONE) return time + d;
        }
        return NONE;
    }

    public int shared(int fact, int other) {
        index(in(fact, 0, s.facts.size() - 1) && in(other, 0, s.facts.size() - 1));
        int n = 0;
        for (int t = 0; t < 1000; t++) {
            Fact f = s.facts.get(fact);
            Fact g = s.facts.get(other);
            if (f.from <= t && t < f.to && g.from <= t && t < g.to) n++;
        }
        return n;
    }

    public int rest(int thing, int time) {
        place(thing, time);
        for (int[] row : rows(thing, false)) if (row[0] > time) return row[0] - time;
        return NONE;
    }

    public boolean better(int fact, int other) {
        index(in(fact, 0, s.facts.size() - 1) && in(other, 0, s.facts.size() - 1));
        return fact != other && beats(fact, other);
    }

    public int longest(int thing, boolean gap) {
        index(in(thing, 0, 7));
        int longest = NONE;
        List<int[]> rows = rows(thing, gap);
        for (int i = 0; i < rows.size(); i++) {
            int[] r = rows.get(i);
            if (longest == NONE || r[1] - r[0] > rows.get(longest)[1] - rows.get(longest)[0]) longest = i;
        }
        return longest;
    }

    public int pairs(int thing, int other, int how) {
        index(in(thing, 0, 7) && in(other, 0, 7));
        arg(in(how, 0, 12));
        int n = 0;
        for (int[] a : rows(thing, false)) {
            for (int[] b : rows(other, false)) if (lies(a[0], a[1], b[0], b[1]) == how) n++;
        }
        return n;
    }

    public int early(int thing, int time, int n) {
        place(thing, time);
        arg(in(n, 0, s.facts.size()));
        return values(bests(n, NONE))[thing][time];
    }

    public int order(int k) {
        List<Integer> all = new ArrayList<>();
        for (int i = 0; i < s.sources.size(); i++) all.add(i);
        all.sort((i, j) -> s.sources.get(j).rank - s.sources.get(i).rank);
        return in(k, 0, all.size() - 1) ? all.get(k) : NONE;
    }

    private List<Integer> idles() {
        List<Integer> all = new ArrayList<>();
        for (int i = 0; i < s.facts.size(); i++) {
            if (!s.facts.get(i).withdrawn && reign(i) == 0) all.add(i);
        }
        return all;
    }

    public int idle(int k) {
        return in(k, 0, idles().size() - 1) ? idles().get(k) : NONE;
    }

    public void image() {
        image = s.copy();
    }

    public boolean back() {
        if (image == null) return false;
        s = image.copy();
        past.clear();
        changed();
        return true;
    }

    public int count(int what) {
        int n = 0;
        switch (what) {
            case 0 -> n = s.sources.size();
            case 1 -> n = s.facts.size();
            case 2 -> n = (int) s.facts.stream().filter(Fact::withdrawn).count();
            case 3 -> n = (int) s.sources.stream().filter(Source::silent).count();
            case 4 -> {
                for (Node rule : s.rules) n += rule == null ? 0 : 1;
            }
            case 5 -> n = idles().size();
            case 6 -> {
                for (int thing = 0; thing < 8; thing++) n += rows(thing, false).size();
            }
            case 7 -> n = past.size();
            default -> n = NONE;
        }
        return n;
    }
}
