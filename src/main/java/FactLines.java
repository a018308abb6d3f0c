import java.util.NoSuchElementException;

/**
 * Lines of time on which facts lie: told by sources, withdrawn, heard by rank, and made by rules.
 * What is on the lines is held in a State; all answers about times are read from Lines, which cut
 * the times into pieces within which nothing changes.
 */
public final class FactLines {
    public static final int NONE = -1;

    private static final int TIMES = 1000;
    private static final int THINGS = 8;
    private static final int SOURCES = 8;
    private static final int FACTS = 60;
    private static final int VALUES = 100;
    private static final int RANKS = 100;
    private static final int HOWS = 13;
    private static final int PAST_ACTS = 8;
    private static final int TAPE_BYTES = 400;
    private static final int TEXT_ACTS = 14;
    private static final int NUMBER_DIGITS = 4;
    private static final int RULE_ATOMS = 12;
    private static final int RULE_BRACKETS = 4;
    private static final int RULE_NODES = 2 * RULE_ATOMS - 1;
    private static final int RULE_PENDING = 3 * (RULE_BRACKETS + 1);
    private static final int PIECES = 2 * FACTS + 1;

    private static final int NO_ROOM_FOR_SOURCE = 1;
    private static final int NO_SUCH_SOURCE = 2;
    private static final int FROM_NOT_LESS = 3;
    private static final int NO_ROOM_FOR_FACT = 4;
    private static final int NO_SUCH_FACT = 5;
    private static final int NOTHING_TO_DO = 6;

    private static final int LACKS_RULE = 0;
    private static final int LACKS_BY_BOUNDS = 1;
    private static final int LACKS_BY_UNLESS = 2;

    // What a text is made of; the words of acts are the kinds of acts as well.
    private static final int TEXT_END = 0;
    private static final int NUMBER = 1;
    private static final int WRONG = 2;
    private static final int SEMICOLON = 3;
    private static final int OPEN = 4;
    private static final int CLOSE = 5;
    private static final int PLUS = 6;
    private static final int MINUS = 7;
    private static final int MIN = 8;
    private static final int MAX = 9;
    private static final int ELSE = 10;
    private static final int WHILE = 11;
    private static final int UNLESS = 12;
    private static final int THING = 13;
    private static final int IS = 14;
    private static final int AT = 15;
    private static final int OFF = 16;
    private static final int SOURCE = 17;
    private static final int FACT = 18;
    private static final int DROP = 19;
    private static final int HUSH = 20;
    private static final int HEAR = 21;
    private static final int RANK = 22;
    private static final int CUT = 23;
    private static final int RULE = 24;

    private final State now;
    private final State ahead;
    private final State kept;
    private final State[] past;
    private final Act act;
    private final Tape tape;
    private final Reader reader;
    private final Lines lines;
    private final Lines supposed;
    private boolean isKept;
    private boolean isDrawn;
    private int remembered;
    private int nextPast;
    private int refusal;
    private int wrongByte;

    public FactLines() {
        now = new State();
        ahead = new State();
        kept = new State();
        past = new State[PAST_ACTS];
        for (int i = 0; i < PAST_ACTS; i++) {
            past[i] = new State();
        }
        act = new Act();
        tape = new Tape();
        reader = new Reader(tape);
        lines = new Lines(now);
        supposed = new Lines(now);
        wrongByte = NONE;
    }

    // ---- texts ----

    public int feed(int a, int b, int c, int d, int e) {
        if (tape.size + 20 > TAPE_BYTES) {
            return NONE;
        }
        tape.append(a);
        tape.append(b);
        tape.append(c);
        tape.append(d);
        tape.append(e);
        return tape.size;
    }

    public boolean end(int n) {
        if (n < 0 || n > tape.size) {
            return false;
        }
        tape.size = n;
        return true;
    }

    public int acts() throws IllegalArgumentException {
        ahead.copyOf(now);
        boolean isRight = reader.readAll(now);
        tape.size = 0;
        wrongByte = reader.wrongByte;
        isDrawn = false;
        if (!isRight) {
            now.copyOf(ahead);
            if (reader.refusal != 0) {
                refusal = reader.refusal;
            }
            throw new IllegalArgumentException("the text is wrong");
        }
        remembered = 0;
        if (reader.done > 0) {
            refusal = 0;
        }
        return reader.done;
    }

    public int fault() {
        return wrongByte;
    }

    public int why() {
        return refusal;
    }

    // ---- acts ----

    public int source(int rank) throws IllegalArgumentException, IllegalStateException {
        needNumber(rank, 0, RANKS);
        tell(SOURCE, rank, 0, 0, 0, 0);
        return now.sources - 1;
    }

    public int fact(int thing, int source, int from, int to, int value)
            throws IndexOutOfBoundsException, IllegalArgumentException, IllegalStateException {
        needThing(thing);
        needNumber(from, 0, TIMES + 1);
        needNumber(to, 0, TIMES + 1);
        needNumber(value, 0, VALUES);
        tell(FACT, thing, source, from, to, value);
        return now.facts - 1;
    }

    public int drop(int fact) throws IllegalStateException {
        int reign = now.hasFact(fact) ? drawn().reignOf(fact) : 0;
        tell(DROP, fact, 0, 0, 0, 0);
        return reign;
    }

    public int hush(int source, boolean heard) throws IllegalStateException {
        tell(heard ? HEAR : HUSH, source, 0, 0, 0, 0);
        return now.factsBy(source);
    }

    public int rank(int source, int rank) throws IllegalArgumentException, IllegalStateException {
        needNumber(rank, 0, RANKS);
        int was = now.hasSource(source) ? now.ranks[source] : NONE;
        tell(RANK, source, rank, 0, 0, 0);
        return was;
    }

    public int cut(int thing, int time)
            throws IndexOutOfBoundsException, IllegalArgumentException, IllegalStateException {
        needThing(thing);
        needNumber(time, 1, TIMES);
        int were = now.facts;
        tell(CUT, thing, time, 0, 0, 0);
        return now.facts - were;
    }

    public int off(int thing) throws IndexOutOfBoundsException, IllegalStateException {
        needThing(thing);
        int atoms = now.rules[thing].atoms;
        tell(OFF, thing, 0, 0, 0, 0);
        return atoms;
    }

    public int undo() throws IllegalStateException {
        if (remembered == 0) {
            throw new IllegalStateException("no act is remembered");
        }
        nextPast = (nextPast + PAST_ACTS - 1) % PAST_ACTS;
        now.copyOf(past[nextPast]);
        isDrawn = false;
        remembered--;
        return remembered;
    }

    // ---- what holds at a time ----

    public int at(int thing, int time) throws IndexOutOfBoundsException {
        needPlace(thing, time);
        return drawn().valueAt(thing, time);
    }

    public int by(int thing, int time, int how) throws IndexOutOfBoundsException, NoSuchElementException {
        needPlace(thing, time);
        needWhat(how, 3);
        int fact = drawn().bestAt(thing, time);
        if (how == 0) {
            return fact;
        }
        if (how == 1) {
            return fact == NONE ? NONE : now.sourceOf[fact];
        }
        if (fact != NONE) {
            return 0;
        }
        return drawn().valueAt(thing, time) != NONE ? 1 : 2;
    }

    public int beneath(int thing, int time, int k) throws IndexOutOfBoundsException {
        needPlace(thing, time);
        return k == NONE ? now.countHolding(thing, time) : now.holdingAt(thing, time, k);
    }

    public int early(int thing, int time, int n) throws IndexOutOfBoundsException, IllegalArgumentException {
        needPlace(thing, time);
        needNumber(n, 0, now.facts + 1);
        supposed.draw(n, NONE);
        return supposed.valueAt(thing, time);
    }

    public int lack(int thing, int time, int k) throws IndexOutOfBoundsException {
        needPlace(thing, time);
        if (drawn().valueAt(thing, time) != NONE) {
            return NONE;
        }
        lines.followLack(thing, time);
        if (k == NONE) {
            return lines.lacking;
        }
        if (k == NONE - 1) {
            return lines.lackEnd;
        }
        return k >= 0 && k < lines.lacking ? lines.lackRow[k] : NONE;
    }

    // ---- spans and gaps of a thing ----

    public int span(int thing, int k, int what) throws IndexOutOfBoundsException, NoSuchElementException {
        needThing(thing);
        needWhat(what, 3);
        return rowAnswer(thing, k, what, false);
    }

    public int gap(int thing, int k, int what) throws IndexOutOfBoundsException, NoSuchElementException {
        needThing(thing);
        needWhat(what, 2);
        return rowAnswer(thing, k, what, true);
    }

    public int longest(int thing, boolean gap) throws IndexOutOfBoundsException {
        needThing(thing);
        return drawn().longestRow(thing, gap);
    }

    public int change(int thing, int time, boolean back) throws IndexOutOfBoundsException {
        needPlace(thing, time);
        if (back) {
            return drawn().rowFrom(thing, time);
        }
        int next = drawn().rowTo(thing, time);
        return next < TIMES ? next : NONE;
    }

    public int run(int thing, int time) throws IndexOutOfBoundsException {
        needPlace(thing, time);
        return drawn().rowTo(thing, time) - drawn().rowFrom(thing, time);
    }

    public int first(int thing, int time, int value) throws IndexOutOfBoundsException, IllegalArgumentException {
        needPlace(thing, time);
        needNumber(value, 0, VALUES);
        return drawn().firstTime(thing, time, value);
    }

    public int nearest(int thing, int time) throws IndexOutOfBoundsException {
        needPlace(thing, time);
        return drawn().nearestTime(thing, time);
    }

    public int rest(int thing, int time) throws IndexOutOfBoundsException {
        needPlace(thing, time);
        int next = drawn().nextSpanFrom(thing, time);
        return next == NONE ? NONE : next - time;
    }

    public int pairs(int thing, int other, int how) throws IndexOutOfBoundsException, IllegalArgumentException {
        needThing(thing);
        needThing(other);
        needNumber(how, 0, HOWS);
        return drawn().countPairs(thing, other, how);
    }

    public int together(int thing, int other) throws IndexOutOfBoundsException {
        needThing(thing);
        needThing(other);
        return drawn().timesOfBoth(thing, other);
    }

    public int often(int thing, int value) throws IndexOutOfBoundsException, IllegalArgumentException {
        needThing(thing);
        needNumber(value, 0, VALUES);
        return drawn().timesOf(thing, value);
    }

    public int thing(int thing, int what) throws IndexOutOfBoundsException, NoSuchElementException {
        needThing(thing);
        needWhat(what, 7);
        Rule rule = now.rules[thing];
        switch (what) {
            case 0:
                return now.factsOf(thing);
            case 1:
                return drawn().timesOfBoth(thing, thing);
            case 2:
                return drawn().timesInDispute(thing);
            case 3:
                return drawn().sumOf(thing);
            case 4:
                return rule.isThere() ? rule.atoms : NONE;
            case 5:
                return rule.thingBits;
            default:
                return drawn().modeOf(thing);
        }
    }

    // ---- facts ----

    public int told(int fact, int what) throws IndexOutOfBoundsException, NoSuchElementException {
        needFact(fact);
        needWhat(what, 8);
        switch (what) {
            case 0:
                return now.thingOf[fact];
            case 1:
                return now.sourceOf[fact];
            case 2:
                return now.froms[fact];
            case 3:
                return now.tos[fact];
            case 4:
                return now.values[fact];
            case 5:
                return now.withdrawn[fact] ? 1 : 0;
            case 6:
                return drawn().reignOf(fact);
            default:
                return touchOf(fact);
        }
    }

    public int how(int fact, int other) throws IndexOutOfBoundsException, IllegalArgumentException {
        needFact(fact);
        needFact(other);
        if (fact == other) {
            throw new IllegalArgumentException("both are one fact");
        }
        return relation(now.froms[fact], now.tos[fact], now.froms[other], now.tos[other]);
    }

    public int shared(int fact, int other) throws IndexOutOfBoundsException {
        needFact(fact);
        needFact(other);
        int from = Math.max(now.froms[fact], now.froms[other]);
        int to = Math.min(now.tos[fact], now.tos[other]);
        return Math.max(to - from, 0);
    }

    public boolean better(int fact, int other) throws IndexOutOfBoundsException {
        needFact(fact);
        needFact(other);
        return now.isBetter(fact, other);
    }

    public int idle(int k) {
        return drawn().idleFact(k);
    }

    // ---- sources ----

    public int heard(int source, int what) throws IndexOutOfBoundsException, NoSuchElementException {
        needSource(source);
        needWhat(what, 4);
        switch (what) {
            case 0:
                return now.ranks[source];
            case 1:
                return now.silent[source] ? 1 : 0;
            case 2:
                return now.factsBy(source);
            default:
                return drawn().voiceOf(source);
        }
    }

    public int accord(int source, int other) throws IndexOutOfBoundsException, IllegalArgumentException {
        needSource(source);
        needSource(other);
        if (source == other) {
            throw new IllegalArgumentException("both are one source");
        }
        return drawn().accordOf(source, other);
    }

    public int order(int k) {
        for (int source = 0; source < now.sources; source++) {
            if (now.sourcesAbove(source) == k) {
                return source;
            }
        }
        return NONE;
    }

    // ---- all of it ----

    public void image() {
        kept.copyOf(now);
        isKept = true;
    }

    public boolean back() {
        if (!isKept) {
            return false;
        }
        now.copyOf(kept);
        isDrawn = false;
        remembered = 0;
        return true;
    }

    public int count(int what) {
        switch (what) {
            case 0:
                return now.sources;
            case 1:
                return now.facts;
            case 2:
                return now.countWithdrawn();
            case 3:
                return now.countSilent();
            case 4:
                return now.countRules();
            case 5:
                return drawn().countIdle();
            case 6:
                return drawn().countSpans();
            case 7:
                return remembered;
            default:
                return NONE;
        }
    }

    // ---- what calls need ----

    private static void needThing(int thing) {
        if (thing < 0 || thing >= THINGS) {
            throw new IndexOutOfBoundsException("there is no such thing");
        }
    }

    private static void needPlace(int thing, int time) {
        needThing(thing);
        if (time < 0 || time >= TIMES) {
            throw new IndexOutOfBoundsException("there is no such time");
        }
    }

    private void needSource(int source) {
        if (!now.hasSource(source)) {
            throw new IndexOutOfBoundsException("there is no such source");
        }
    }

    private void needFact(int fact) {
        if (!now.hasFact(fact)) {
            throw new IndexOutOfBoundsException("there is no such fact");
        }
    }

    private static void needNumber(int number, int least, int bound) {
        if (number < least || number >= bound) {
            throw new IllegalArgumentException("the number is none");
        }
    }

    private static void needWhat(int what, int bound) {
        if (what < 0 || what >= bound) {
            throw new NoSuchElementException("nothing is asked by that number");
        }
    }

    /** Does an act told by a call and remembers what was ahead of it, or refuses it. */
    private void tell(int kind, int a, int b, int c, int d, int e) {
        act.set(kind, a, b, c, d, e);
        refusal = now.refusalOf(act);
        if (refusal != 0) {
            throw new IllegalStateException("the act is refused");
        }
        past[nextPast].copyOf(now);
        nextPast = (nextPast + 1) % PAST_ACTS;
        remembered = Math.min(remembered + 1, PAST_ACTS);
        now.carryOut(act);
        isDrawn = false;
    }

    /** The lines as they are now; drawn anew only if something was done since. */
    private Lines drawn() {
        if (!isDrawn) {
            lines.draw(now.facts, NONE);
            isDrawn = true;
        }
        return lines;
    }

    private int rowAnswer(int thing, int k, int what, boolean gap) {
        if (k == NONE) {
            return drawn().countRows(thing, gap);
        }
        int piece = drawn().rowPiece(thing, k, gap);
        if (piece == NONE) {
            return NONE;
        }
        if (what == 0) {
            return lines.start[piece];
        }
        return what == 1 ? lines.start[lines.rowEnd(thing, piece)] : lines.is[thing][piece];
    }

    private int touchOf(int fact) {
        if (now.withdrawn[fact]) {
            return NONE;
        }
        supposed.draw(now.facts, fact);
        return drawn().timesUnlike(supposed);
    }

    /** How one row of times lies to another one, 0 to 12. */
    private static int relation(int from, int to, int otherFrom, int otherTo) {
        if (to <= otherFrom) {
            return to < otherFrom ? 0 : 1;
        }
        if (from >= otherTo) {
            return from > otherTo ? 12 : 11;
        }
        return 6 + 3 * Integer.compare(from, otherFrom) + Integer.compare(to, otherTo);
    }

    /** An act with its numbers in the order of its text, and the rule that it tells. */
    private static final class Act {
        final int[] numbers = new int[5];
        final Rule rule = new Rule();
        int kind;
        int given;

        void set(int newKind, int a, int b, int c, int d, int e) {
            kind = newKind;
            numbers[0] = a;
            numbers[1] = b;
            numbers[2] = c;
            numbers[3] = d;
            numbers[4] = e;
        }

        void begin(int newKind) {
            kind = newKind;
            given = 0;
        }

        void give(int number) {
            if (given < numbers.length) {
                numbers[given] = number;
                given++;
            }
        }
    }

    /**
     * A rule as a tree in rows: what a node is made of stands ahead of it, the last node is the
     * whole. Of a leaf, left is its number or thing; without nodes there is no rule.
     */
    private static final class Rule {
        final int[] kinds = new int[RULE_NODES];
        final int[] left = new int[RULE_NODES];
        final int[] right = new int[RULE_NODES];
        int nodes;
        int atoms;
        int thingBits;

        boolean isThere() {
            return nodes > 0;
        }

        void clear() {
            nodes = 0;
            atoms = 0;
            thingBits = 0;
        }

        void copyOf(Rule other) {
            for (int i = 0; i < other.nodes; i++) {
                kinds[i] = other.kinds[i];
                left[i] = other.left[i];
                right[i] = other.right[i];
            }
            nodes = other.nodes;
            atoms = other.atoms;
            thingBits = other.thingBits;
        }

        int addAtom(int kind, int number) {
            atoms++;
            if (kind == THING) {
                thingBits |= 1 << number;
            }
            return addNode(kind, number, 0);
        }

        int addNode(int kind, int a, int b) {
            int node = nodes;
            if (node < RULE_NODES) {
                kinds[node] = kind;
                left[node] = a;
                right[node] = b;
                nodes++;
            }
            return node;
        }

        /** What a sign makes of what is ahead of it and what is behind it. */
        static int join(int sign, int a, int b) {
            if (sign == ELSE) {
                return a != NONE ? a : b;
            }
            if (sign == WHILE) {
                return b != NONE ? a : NONE;
            }
            if (sign == UNLESS) {
                return b == NONE ? a : NONE;
            }
            if (a == NONE || b == NONE) {
                return NONE;
            }
            int result;
            switch (sign) {
                case PLUS:
                    result = a + b;
                    break;
                case MINUS:
                    result = a - b;
                    break;
                case MIN:
                    result = Math.min(a, b);
                    break;
                default:
                    result = Math.max(a, b);
                    break;
            }
            return result >= 0 && result < VALUES ? result : NONE;
        }
    }

    /** What is on the lines: sources, facts and rules. */
    private static final class State {
        final int[] ranks = new int[SOURCES];
        final boolean[] silent = new boolean[SOURCES];
        final int[] thingOf = new int[FACTS];
        final int[] sourceOf = new int[FACTS];
        final int[] froms = new int[FACTS];
        final int[] tos = new int[FACTS];
        final int[] values = new int[FACTS];
        final boolean[] withdrawn = new boolean[FACTS];
        final Rule[] rules = new Rule[THINGS];
        int sources;
        int facts;

        State() {
            for (int i = 0; i < THINGS; i++) {
                rules[i] = new Rule();
            }
        }

        void copyOf(State other) {
            sources = other.sources;
            for (int i = 0; i < SOURCES; i++) {
                ranks[i] = other.ranks[i];
                silent[i] = other.silent[i];
            }
            facts = other.facts;
            for (int i = 0; i < other.facts; i++) {
                thingOf[i] = other.thingOf[i];
                sourceOf[i] = other.sourceOf[i];
                froms[i] = other.froms[i];
                tos[i] = other.tos[i];
                values[i] = other.values[i];
                withdrawn[i] = other.withdrawn[i];
            }
            for (int i = 0; i < THINGS; i++) {
                rules[i].copyOf(other.rules[i]);
            }
        }

        boolean hasSource(int source) {
            return source >= 0 && source < sources;
        }

        boolean hasFact(int fact) {
            return fact >= 0 && fact < facts;
        }

        /** By which number an act is refused; 0, if it can be done. */
        int refusalOf(Act act) {
            int a = act.numbers[0];
            switch (act.kind) {
                case SOURCE:
                    return sources < SOURCES ? 0 : NO_ROOM_FOR_SOURCE;
                case FACT:
                    return refusalOfFact(act.numbers[1], act.numbers[2], act.numbers[3]);
                case DROP:
                    return hasFact(a) && !withdrawn[a] ? 0 : NO_SUCH_FACT;
                case HUSH:
                case HEAR:
                    return refusalOfHush(a, act.kind == HUSH);
                case RANK:
                    return hasSource(a) ? 0 : NO_SUCH_SOURCE;
                case CUT:
                    return refusalOfCut(a, act.numbers[1]);
                case OFF:
                    return rules[a].isThere() ? 0 : NOTHING_TO_DO;
                default:
                    return 0;
            }
        }

        private int refusalOfFact(int source, int from, int to) {
            if (!hasSource(source)) {
                return NO_SUCH_SOURCE;
            }
            if (from >= to) {
                return FROM_NOT_LESS;
            }
            return facts < FACTS ? 0 : NO_ROOM_FOR_FACT;
        }

        private int refusalOfHush(int source, boolean toSilent) {
            if (!hasSource(source)) {
                return NO_SUCH_SOURCE;
            }
            return silent[source] == toSilent ? NOTHING_TO_DO : 0;
        }

        private int refusalOfCut(int thing, int time) {
            int n = 0;
            for (int fact = 0; fact < facts; fact++) {
                if (isCutBy(fact, thing, time)) {
                    n++;
                }
            }
            if (n == 0) {
                return NOTHING_TO_DO;
            }
            return facts + n <= FACTS ? 0 : NO_ROOM_FOR_FACT;
        }

        private boolean isCutBy(int fact, int thing, int time) {
            return thingOf[fact] == thing && !withdrawn[fact] && froms[fact] < time && tos[fact] > time;
        }

        /** Does an act that is not refused. */
        void carryOut(Act act) {
            int a = act.numbers[0];
            int b = act.numbers[1];
            switch (act.kind) {
                case SOURCE:
                    addSource(a);
                    break;
                case FACT:
                    addFact(a, b, act.numbers[2], act.numbers[3], act.numbers[4]);
                    break;
                case DROP:
                    withdrawn[a] = true;
                    break;
                case HUSH:
                case HEAR:
                    silent[a] = act.kind == HUSH;
                    break;
                case RANK:
                    ranks[a] = b;
                    break;
                case CUT:
                    cutAll(a, b);
                    break;
                case OFF:
                    rules[a].clear();
                    break;
                case RULE:
                    rules[a].copyOf(act.rule);
                    break;
                default:
                    break;
            }
        }

        private void addSource(int rank) {
            if (sources < SOURCES) {
                ranks[sources] = rank;
                silent[sources] = false;
                sources++;
            }
        }

        private void addFact(int thing, int source, int from, int to, int value) {
            if (facts < FACTS) {
                thingOf[facts] = thing;
                sourceOf[facts] = source;
                froms[facts] = from;
                tos[facts] = to;
                values[facts] = value;
                withdrawn[facts] = false;
                facts++;
            }
        }

        private void cutAll(int thing, int time) {
            int were = facts;
            for (int fact = 0; fact < were; fact++) {
                if (isCutBy(fact, thing, time)) {
                    addFact(thing, sourceOf[fact], time, tos[fact], values[fact]);
                    tos[fact] = time;
                }
            }
        }

        boolean isHeard(int fact) {
            return !withdrawn[fact] && !silent[sourceOf[fact]];
        }

        boolean isHolding(int fact, int thing, int time) {
            return thingOf[fact] == thing && froms[fact] <= time && tos[fact] > time && isHeard(fact);
        }

        /** Whether one fact is better than another one, wherever both lie. */
        boolean isBetter(int one, int other) {
            int a = sourceOf[one];
            int b = sourceOf[other];
            if (a != b) {
                return ranks[a] != ranks[b] ? ranks[a] > ranks[b] : a < b;
            }
            int times = tos[one] - froms[one];
            int otherTimes = tos[other] - froms[other];
            if (times != otherTimes) {
                return times < otherTimes;
            }
            if (froms[one] != froms[other]) {
                return froms[one] > froms[other];
            }
            return values[one] != values[other] ? values[one] > values[other] : one < other;
        }

        int countHolding(int thing, int time) {
            int n = 0;
            for (int fact = 0; fact < facts; fact++) {
                if (isHolding(fact, thing, time)) {
                    n++;
                }
            }
            return n;
        }

        /** The k-th best fact that holds; NONE without. */
        int holdingAt(int thing, int time, int k) {
            for (int fact = 0; fact < facts; fact++) {
                if (isHolding(fact, thing, time) && countBetter(fact, time) == k) {
                    return fact;
                }
            }
            return NONE;
        }

        private int countBetter(int fact, int time) {
            int n = 0;
            for (int other = 0; other < facts; other++) {
                if (isHolding(other, thingOf[fact], time) && isBetter(other, fact)) {
                    n++;
                }
            }
            return n;
        }

        /** The best fact of a source that holds for a thing; NONE without. */
        int bestBy(int source, int thing, int time) {
            int best = NONE;
            for (int fact = 0; fact < facts; fact++) {
                if (sourceOf[fact] == source && isHolding(fact, thing, time)
                        && (best == NONE || isBetter(fact, best))) {
                    best = fact;
                }
            }
            return best;
        }

        // Of two sources with unlike values, not all values that hold are one; and where two
        // sources hold and not all values are one, some two sources have unlike ones.
        boolean isDisputed(int thing, int time) {
            int seen = NONE;
            boolean twoSources = false;
            boolean twoValues = false;
            for (int fact = 0; fact < facts; fact++) {
                if (isHolding(fact, thing, time)) {
                    if (seen == NONE) {
                        seen = fact;
                    }
                    twoSources = twoSources || sourceOf[fact] != sourceOf[seen];
                    twoValues = twoValues || values[fact] != values[seen];
                }
            }
            return twoSources && twoValues;
        }

        int factsBy(int source) {
            int n = 0;
            for (int fact = 0; fact < facts; fact++) {
                if (sourceOf[fact] == source && !withdrawn[fact]) {
                    n++;
                }
            }
            return n;
        }

        int factsOf(int thing) {
            int n = 0;
            for (int fact = 0; fact < facts; fact++) {
                if (thingOf[fact] == thing && !withdrawn[fact]) {
                    n++;
                }
            }
            return n;
        }

        int sourcesAbove(int source) {
            int n = 0;
            for (int other = 0; other < sources; other++) {
                boolean isAhead = ranks[other] > ranks[source];
                if (isAhead || ranks[other] == ranks[source] && other < source) {
                    n++;
                }
            }
            return n;
        }

        int countWithdrawn() {
            int n = 0;
            for (int fact = 0; fact < facts; fact++) {
                if (withdrawn[fact]) {
                    n++;
                }
            }
            return n;
        }

        int countSilent() {
            int n = 0;
            for (int source = 0; source < sources; source++) {
                if (silent[source]) {
                    n++;
                }
            }
            return n;
        }

        int countRules() {
            int n = 0;
            for (int thing = 0; thing < THINGS; thing++) {
                if (rules[thing].isThere()) {
                    n++;
                }
            }
            return n;
        }
    }

    /**
     * What each thing is, drawn from a state: the times are cut into pieces wherever a fact begins
     * or ends, and within a piece nothing changes. Withdrawn facts cut them too, so that two
     * drawings of one state have the same pieces.
     */
    private static final class Lines {
        final State state;
        final int[] start = new int[PIECES + 1];
        final int[] pieceAt = new int[TIMES + 1];
        final boolean[] isMarked = new boolean[TIMES + 1];
        final int[][] best = new int[THINGS][PIECES];
        final int[][] is = new int[THINGS][PIECES];
        final int[] made = new int[RULE_NODES];
        final int[] lackRow = new int[THINGS];
        int pieces;
        int lacking;
        int lackEnd;

        Lines(State drawnState) {
            state = drawnState;
        }

        /** Draws the facts below a number, but for one of them (NONE: for none). */
        void draw(int told, int without) {
            cutPieces();
            for (int thing = 0; thing < THINGS; thing++) {
                for (int piece = 0; piece < pieces; piece++) {
                    best[thing][piece] = NONE;
                }
            }
            int bound = Math.min(told, state.facts);
            for (int fact = 0; fact < bound; fact++) {
                if (fact != without && state.isHeard(fact)) {
                    layFact(fact);
                }
            }
            // A rule has only lesser things, so these are known ahead of it.
            for (int thing = 0; thing < THINGS; thing++) {
                for (int piece = 0; piece < pieces; piece++) {
                    int fact = best[thing][piece];
                    is[thing][piece] = fact != NONE ? state.values[fact] : makeBy(state.rules[thing], piece);
                }
            }
        }

        private void cutPieces() {
            for (int time = 0; time <= TIMES; time++) {
                isMarked[time] = false;
            }
            isMarked[0] = true;
            for (int fact = 0; fact < state.facts; fact++) {
                isMarked[state.froms[fact]] = true;
                isMarked[state.tos[fact]] = true;
            }
            pieces = 0;
            for (int time = 0; time < TIMES; time++) {
                if (isMarked[time] && pieces < PIECES) {
                    start[pieces] = time;
                    pieces++;
                }
                pieceAt[time] = pieces - 1;
            }
            start[pieces] = TIMES;
            pieceAt[TIMES] = pieces;
        }

        private void layFact(int fact) {
            int[] row = best[state.thingOf[fact]];
            int bound = pieceAt[state.tos[fact]];
            for (int piece = pieceAt[state.froms[fact]]; piece < bound; piece++) {
                if (row[piece] == NONE || state.isBetter(fact, row[piece])) {
                    row[piece] = fact;
                }
            }
        }

        /** What a rule makes in a piece, and what each of its nodes makes on the way. */
        private int makeBy(Rule rule, int piece) {
            int result = NONE;
            for (int node = 0; node < rule.nodes; node++) {
                int a = rule.left[node];
                switch (rule.kinds[node]) {
                    case NUMBER:
                        result = a;
                        break;
                    case THING:
                        result = is[a][piece];
                        break;
                    default:
                        result = Rule.join(rule.kinds[node], made[a], made[rule.right[node]]);
                        break;
                }
                made[node] = result;
            }
            return result;
        }

        /** Fills the row of things by which a thing is nothing, and how that row ends. */
        void followLack(int thing, int time) {
            lacking = 0;
            int next = thing;
            while (next != NONE && lacking < THINGS) {
                lackRow[lacking] = next;
                lacking++;
                next = lackedBy(state.rules[next], pieceAt[time]);
            }
        }

        /** The thing by which a rule made nothing; NONE without, and lackEnd tells why. */
        private int lackedBy(Rule rule, int piece) {
            lackEnd = LACKS_RULE;
            makeBy(rule, piece);
            int node = rule.nodes - 1;
            for (int step = 0; step < rule.nodes; step++) {
                int a = rule.left[node];
                int b = rule.right[node];
                switch (rule.kinds[node]) {
                    case THING:
                        return a;
                    case NUMBER:
                        return NONE;
                    case ELSE:
                        node = b;
                        break;
                    case WHILE:
                        node = made[b] == NONE ? b : a;
                        break;
                    case UNLESS:
                        if (made[b] != NONE) {
                            lackEnd = LACKS_BY_UNLESS;
                            return NONE;
                        }
                        node = a;
                        break;
                    default:
                        if (made[a] != NONE && made[b] != NONE) {
                            lackEnd = LACKS_BY_BOUNDS;
                            return NONE;
                        }
                        node = made[a] == NONE ? a : b;
                        break;
                }
            }
            return NONE;
        }

        int valueAt(int thing, int time) {
            return is[thing][pieceAt[time]];
        }

        int bestAt(int thing, int time) {
            return best[thing][pieceAt[time]];
        }

        private int lengthOf(int piece) {
            return start[piece + 1] - start[piece];
        }

        /** The piece behind the row of pieces in which a thing is the same. */
        int rowEnd(int thing, int piece) {
            int end = piece + 1;
            while (end < pieces && is[thing][end] == is[thing][piece]) {
                end++;
            }
            return end;
        }

        int rowFrom(int thing, int time) {
            int piece = pieceAt[time];
            while (piece > 0 && is[thing][piece - 1] == is[thing][piece]) {
                piece--;
            }
            return start[piece];
        }

        int rowTo(int thing, int time) {
            return start[rowEnd(thing, pieceAt[time])];
        }

        /** Whether a span (or a gap) begins with a piece. */
        private boolean beginsRow(int thing, int piece, boolean gap) {
            if (gap != (is[thing][piece] == NONE)) {
                return false;
            }
            return piece == 0 || is[thing][piece - 1] != is[thing][piece];
        }

        int countRows(int thing, boolean gap) {
            int n = 0;
            for (int piece = 0; piece < pieces; piece++) {
                if (beginsRow(thing, piece, gap)) {
                    n++;
                }
            }
            return n;
        }

        int countSpans() {
            int n = 0;
            for (int thing = 0; thing < THINGS; thing++) {
                n += countRows(thing, false);
            }
            return n;
        }

        /** The piece with which the k-th span or gap begins; NONE without. */
        int rowPiece(int thing, int k, boolean gap) {
            int seen = 0;
            for (int piece = 0; piece < pieces; piece++) {
                if (beginsRow(thing, piece, gap)) {
                    if (seen == k) {
                        return piece;
                    }
                    seen++;
                }
            }
            return NONE;
        }

        int longestRow(int thing, boolean gap) {
            int longest = NONE;
            int most = 0;
            int seen = 0;
            for (int piece = 0; piece < pieces; piece++) {
                if (beginsRow(thing, piece, gap)) {
                    int times = start[rowEnd(thing, piece)] - start[piece];
                    if (times > most) {
                        most = times;
                        longest = seen;
                    }
                    seen++;
                }
            }
            return longest;
        }

        int firstTime(int thing, int time, int value) {
            int piece = pieceAt[time];
            if (is[thing][piece] == value) {
                return time;
            }
            for (int next = piece + 1; next < pieces; next++) {
                if (is[thing][next] == value) {
                    return start[next];
                }
            }
            return NONE;
        }

        int nearestTime(int thing, int time) {
            if (valueAt(thing, time) != NONE) {
                return time;
            }
            int earlier = rowFrom(thing, time) - 1;
            int later = rowTo(thing, time);
            if (later == TIMES) {
                return earlier;
            }
            return earlier >= 0 && time - earlier <= later - time ? earlier : later;
        }

        /** Where the next span begins that begins behind a time; NONE without. */
        int nextSpanFrom(int thing, int time) {
            for (int piece = rowEnd(thing, pieceAt[time]); piece < pieces; piece++) {
                if (is[thing][piece] != NONE) {
                    return start[piece];
                }
            }
            return NONE;
        }

        int countPairs(int one, int other, int how) {
            int n = 0;
            for (int piece = 0; piece < pieces; piece++) {
                if (beginsRow(one, piece, false)) {
                    n += countLying(start[piece], start[rowEnd(one, piece)], other, how);
                }
            }
            return n;
        }

        private int countLying(int from, int to, int other, int how) {
            int n = 0;
            for (int piece = 0; piece < pieces; piece++) {
                if (beginsRow(other, piece, false)
                        && relation(from, to, start[piece], start[rowEnd(other, piece)]) == how) {
                    n++;
                }
            }
            return n;
        }

        int timesOfBoth(int one, int other) {
            int times = 0;
            for (int piece = 0; piece < pieces; piece++) {
                if (is[one][piece] != NONE && is[other][piece] != NONE) {
                    times += lengthOf(piece);
                }
            }
            return times;
        }

        int timesOf(int thing, int value) {
            int times = 0;
            for (int piece = 0; piece < pieces; piece++) {
                if (is[thing][piece] == value) {
                    times += lengthOf(piece);
                }
            }
            return times;
        }

        int modeOf(int thing) {
            int mode = NONE;
            int most = 0;
            for (int value = 0; value < VALUES; value++) {
                int times = timesOf(thing, value);
                if (times > most) {
                    most = times;
                    mode = value;
                }
            }
            return mode;
        }

        int sumOf(int thing) {
            int sum = 0;
            for (int piece = 0; piece < pieces; piece++) {
                if (is[thing][piece] != NONE) {
                    sum += is[thing][piece] * lengthOf(piece);
                }
            }
            return sum;
        }

        int timesInDispute(int thing) {
            int times = 0;
            for (int piece = 0; piece < pieces; piece++) {
                if (state.isDisputed(thing, start[piece])) {
                    times += lengthOf(piece);
                }
            }
            return times;
        }

        int reignOf(int fact) {
            int[] row = best[state.thingOf[fact]];
            int times = 0;
            for (int piece = 0; piece < pieces; piece++) {
                if (row[piece] == fact) {
                    times += lengthOf(piece);
                }
            }
            return times;
        }

        private boolean isIdle(int fact) {
            return !state.withdrawn[fact] && reignOf(fact) == 0;
        }

        int countIdle() {
            int n = 0;
            for (int fact = 0; fact < state.facts; fact++) {
                if (isIdle(fact)) {
                    n++;
                }
            }
            return n;
        }

        /** The k-th idle fact; NONE without. */
        int idleFact(int k) {
            int seen = 0;
            for (int fact = 0; fact < state.facts; fact++) {
                if (isIdle(fact)) {
                    if (seen == k) {
                        return fact;
                    }
                    seen++;
                }
            }
            return NONE;
        }

        int voiceOf(int source) {
            int times = 0;
            for (int thing = 0; thing < THINGS; thing++) {
                for (int piece = 0; piece < pieces; piece++) {
                    int fact = best[thing][piece];
                    if (fact != NONE && state.sourceOf[fact] == source) {
                        times += lengthOf(piece);
                    }
                }
            }
            return times;
        }

        int accordOf(int one, int other) {
            int both = 0;
            int same = 0;
            for (int thing = 0; thing < THINGS; thing++) {
                for (int piece = 0; piece < pieces; piece++) {
                    int a = state.bestBy(one, thing, start[piece]);
                    int b = state.bestBy(other, thing, start[piece]);
                    if (a != NONE && b != NONE) {
                        both += lengthOf(piece);
                        same += state.values[a] == state.values[b] ? lengthOf(piece) : 0;
                    }
                }
            }
            return both == 0 ? 100 : same * 100 / both;
        }

        /** At how many times, of all things, another drawing of the same state is unlike. */
        int timesUnlike(Lines other) {
            int times = 0;
            for (int thing = 0; thing < THINGS; thing++) {
                for (int piece = 0; piece < pieces; piece++) {
                    if (is[thing][piece] != other.is[thing][piece]) {
                        times += lengthOf(piece);
                    }
                }
            }
            return times;
        }
    }

    /** The bytes that were fed, and the words, numbers and signs that they are made of. */
    private static final class Tape {
        final int[] bytes = new int[TAPE_BYTES];
        final int[] kinds = new int[TAPE_BYTES + 1];
        final int[] begins = new int[TAPE_BYTES + 1];
        final int[] numbers = new int[TAPE_BYTES + 1];
        int size;
        int tokens;

        void append(int number) {
            for (int shift = 24; shift >= 0; shift -= 8) {
                if (size < TAPE_BYTES) {
                    bytes[size] = (number >>> shift) & 255;
                    size++;
                }
            }
        }

        void split() {
            tokens = 0;
            int at = 0;
            while (at < size) {
                int after = at + 1;
                if (isLetter(at)) {
                    while (after < size && isLetter(after)) {
                        after++;
                    }
                    put(wordKind(at, after), at, 0);
                } else if (isDigit(at)) {
                    while (after < size && isDigit(after)) {
                        after++;
                    }
                    boolean isShort = after - at <= NUMBER_DIGITS;
                    put(isShort ? NUMBER : WRONG, at, isShort ? numberOf(at, after) : 0);
                } else if (bytes[at] != ' ') {
                    put(signKind(bytes[at]), at, 0);
                }
                at = after;
            }
            put(TEXT_END, size, 0);
        }

        private boolean isLetter(int at) {
            return bytes[at] >= 'a' && bytes[at] <= 'z';
        }

        private boolean isDigit(int at) {
            return bytes[at] >= '0' && bytes[at] <= '9';
        }

        private int numberOf(int at, int after) {
            int number = 0;
            for (int i = at; i < after; i++) {
                number = number * 10 + bytes[i] - '0';
            }
            return number;
        }

        private void put(int kind, int at, int number) {
            if (tokens < kinds.length) {
                kinds[tokens] = kind;
                begins[tokens] = at;
                numbers[tokens] = number;
                tokens++;
            }
        }

        private static int signKind(int sign) {
            switch (sign) {
                case ';':
                    return SEMICOLON;
                case '(':
                    return OPEN;
                case ')':
                    return CLOSE;
                case '+':
                    return PLUS;
                case '-':
                    return MINUS;
                default:
                    return WRONG;
            }
        }

        private int wordKind(int at, int after) {
            int kind = actKind(at, after);
            return kind != WRONG ? kind : innerKind(at, after);
        }

        private int actKind(int at, int after) {
            if (spells(at, after, "source")) {
                return SOURCE;
            }
            if (spells(at, after, "fact")) {
                return FACT;
            }
            if (spells(at, after, "drop")) {
                return DROP;
            }
            if (spells(at, after, "hush")) {
                return HUSH;
            }
            if (spells(at, after, "hear")) {
                return HEAR;
            }
            if (spells(at, after, "rank")) {
                return RANK;
            }
            if (spells(at, after, "cut")) {
                return CUT;
            }
            return spells(at, after, "rule") ? RULE : WRONG;
        }

        private int innerKind(int at, int after) {
            if (spells(at, after, "thing")) {
                return THING;
            }
            if (spells(at, after, "min")) {
                return MIN;
            }
            if (spells(at, after, "max")) {
                return MAX;
            }
            if (spells(at, after, "else")) {
                return ELSE;
            }
            if (spells(at, after, "while")) {
                return WHILE;
            }
            if (spells(at, after, "unless")) {
                return UNLESS;
            }
            if (spells(at, after, "is")) {
                return IS;
            }
            if (spells(at, after, "at")) {
                return AT;
            }
            return spells(at, after, "off") ? OFF : WRONG;
        }

        private boolean spells(int at, int after, String word) {
            if (after - at != word.length()) {
                return false;
            }
            for (int i = 0; i < word.length(); i++) {
                if (bytes[at + i] != word.charAt(i)) {
                    return false;
                }
            }
            return true;
        }
    }

    /** Reads the acts of a text and does them; where reading stops is the wrong byte. */
    private static final class Reader {
        final Tape tape;
        final Act act = new Act();
        final int[] parts = new int[RULE_PENDING];
        final int[] signs = new int[RULE_PENDING];
        int partCount;
        int signCount;
        int token;
        int done;
        int wrongByte;
        int refusal;

        Reader(Tape readTape) {
            tape = readTape;
        }

        /** Whether the text is right; its acts are done, those ahead of a wrong byte too. */
        boolean readAll(State state) {
            tape.split();
            token = 0;
            done = 0;
            refusal = 0;
            wrongByte = NONE;
            if (kind() == TEXT_END) {
                return true;
            }
            while (done < TEXT_ACTS) {
                int word = token;
                if (!readAct()) {
                    return failAt(token);
                }
                refusal = state.refusalOf(act);
                if (refusal != 0) {
                    return failAt(word);
                }
                state.carryOut(act);
                done++;
                if (kind() == TEXT_END) {
                    return true;
                }
                if (kind() != SEMICOLON) {
                    return failAt(token);
                }
                token++;
            }
            return failAt(token);
        }

        private int kind() {
            return token < tape.tokens ? tape.kinds[token] : TEXT_END;
        }

        private boolean failAt(int wrongToken) {
            wrongByte = wrongToken < tape.tokens ? tape.begins[wrongToken] : tape.size;
            return false;
        }

        private boolean readAct() {
            act.begin(kind());
            token++;
            switch (act.kind) {
                case SOURCE:
                    return number(0, RANKS);
                case FACT:
                    return number(0, THINGS) && number(0, SOURCES) && number(0, TIMES)
                            && number(1, TIMES + 1) && number(0, VALUES);
                case DROP:
                    return number(0, FACTS);
                case HUSH:
                case HEAR:
                    return number(0, SOURCES);
                case RANK:
                    return number(0, SOURCES) && number(0, RANKS);
                case CUT:
                    return number(0, THINGS) && word(AT) && number(1, TIMES);
                case RULE:
                    return number(0, THINGS) && (readsOff() || word(IS) && readRule(act.rule, act.numbers[0]));
                default:
                    token--;
                    return false;
            }
        }

        private boolean word(int due) {
            if (kind() != due) {
                return false;
            }
            token++;
            return true;
        }

        private boolean number(int least, int bound) {
            if (kind() != NUMBER || tape.numbers[token] < least || tape.numbers[token] >= bound) {
                return false;
            }
            act.give(tape.numbers[token]);
            token++;
            return true;
        }

        private boolean readsOff() {
            if (!word(OFF)) {
                return false;
            }
            act.kind = OFF;
            return true;
        }

        /** Reads a rule of a thing; signs and brackets wait until what they join is whole. */
        private boolean readRule(Rule rule, int thing) {
            rule.clear();
            partCount = 0;
            signCount = 0;
            int open = 0;
            boolean needsAtom = true;
            boolean goesOn = true;
            for (int left = tape.tokens; left > 0 && goesOn; left--) {
                int kind = kind();
                if (needsAtom && kind == OPEN && open < RULE_BRACKETS) {
                    open++;
                    waitFor(OPEN);
                } else if (needsAtom) {
                    if (!readAtom(rule, thing)) {
                        return false;
                    }
                    needsAtom = false;
                } else if (isSign(kind)) {
                    joinWaiting(rule, levelOf(kind));
                    waitFor(kind);
                    needsAtom = true;
                } else if (kind == CLOSE && open > 0) {
                    joinWaiting(rule, 0);
                    signCount--;
                    open--;
                    token++;
                } else {
                    goesOn = false;
                }
            }
            joinWaiting(rule, 0);
            return !needsAtom && open == 0;
        }

        private void waitFor(int sign) {
            if (signCount < RULE_PENDING) {
                signs[signCount] = sign;
                signCount++;
            }
            token++;
        }

        private static boolean isSign(int kind) {
            return kind >= PLUS && kind <= UNLESS;
        }

        // else, while and unless bind closer than + - min max.
        private static int levelOf(int sign) {
            return sign >= ELSE ? 2 : 1;
        }

        /** Joins what waits by signs of a level or above, back to the last open bracket. */
        private void joinWaiting(Rule rule, int level) {
            while (signCount > 0 && partCount > 1 && isSign(signs[signCount - 1])
                    && levelOf(signs[signCount - 1]) >= level) {
                partCount--;
                signCount--;
                int joined = rule.addNode(signs[signCount], parts[partCount - 1], parts[partCount]);
                parts[partCount - 1] = joined;
            }
        }

        private boolean readAtom(Rule rule, int thing) {
            if (rule.atoms == RULE_ATOMS) {
                return false;
            }
            int kind = kind();
            int bound = VALUES;
            if (kind == THING) {
                bound = thing;
                token++;
            }
            if (kind() != NUMBER || tape.numbers[token] >= bound) {
                return false;
            }
            if (partCount < RULE_PENDING) {
                parts[partCount] = rule.addAtom(kind, tape.numbers[token]);
                partCount++;
            }
            token++;
            return true;
        }
    }
}
