import java.util.Arrays;
import java.util.List;
import java.util.function.Supplier;

/**
 * Of each sentence of "Terms" that names a boundary: the last that is allowed and the first that
 * isn't, the empty and the full, each refusal, what a call that throws leaves. No object is used
 * for more than 512 calls.
 */
public final class TermTests extends Check {
    /** A call on an object, with one of its numbers left open. */
    interface Open {
        Object answer(FactLines x, int n);
    }

    interface Asked {
        Object answer(FactLines x);
    }

    private static final String[] SIGNS = {"+", "-", "min", "max", "else", "while", "unless"};
    private static final String[] ACTS = {"source", "fact", "drop", "hush", "hear", "rank", "cut", "rule"};
    private static final String[] VOCABULARY = {"source", "fact", "drop", "hush", "hear", "rank", "cut", "rule", "is", "off",
        "at", "thing", "min", "max", "else", "while", "unless", "+", "-", "(", ")", ";", "1", "00001", "9999", "word", "offs",
        "Rule", "*", ",", "\t", "\n", "\0", "\u00a0", "\u00e9", "`", "{", "/", ":"};
    /** Twelve atoms. */
    private static final String TWELVE = "1+2+3+4+5+6+7+8+9+10+11+12";

    // ---- objects to ask ----

    /** One thing of each kind: things 0 and 1 have a fact, thing 1 a rule, source 1 is silent. */
    private static FactLines some() {
        return of("source 50;source 60;fact 0 0 0 1000 1;fact 1 0 0 9 2;hush 1;rule 1 is 1");
    }

    /** Eight sources, of each thing a fact at all times but the last one, and a rule. */
    private static FactLines wide() {
        FactLines x = of(times(8, "source 50"));
        for (int thing = 0; thing < 8; thing++) {
            x.fact(thing, 0, 0, 1000, thing);
        }
        tell(x, "rule 0 is 1;rule 1 is 1;rule 2 is 1;rule 3 is 1;rule 4 is 1;rule 5 is 1;rule 6 is 1;rule 7 is 1");
        return x;
    }

    /** Eight sources and sixty facts, none of which begins or ends with another one. */
    private static FactLines full() {
        FactLines x = of("source 10;source 20;source 30;source 40;source 50;source 60;source 70;source 80");
        for (int i = 0; i < 60; i++) {
            x.fact(i % 8, i % 8, 16 * i + 1, 16 * i + 9, i);
        }
        return x;
    }

    private static FactLines factsOf(int n) {
        FactLines x = of("source 50");
        for (int i = 0; i < n; i++) {
            x.fact(0, 0, 0, 1000, 1);
        }
        return x;
    }

    /** The last numbers that are allowed answer, the first that aren't throw. */
    private static void sides(String call, Supplier<FactLines> made, int low, int high, String exception, Open asked) {
        for (int n : new int[] {low, high}) {
            due(call + " by " + n + " throws", outcome(() -> asked.answer(made.get(), n)).endsWith("n"), false);
        }
        for (int n : new int[] {low - 1, high + 1, Integer.MIN_VALUE, Integer.MAX_VALUE}) {
            fails(exception, call + " by " + n, () -> asked.answer(made.get(), n));
        }
    }

    // ---- Terms 1: what is on the lines ----

    private static void timesAre0To999() {
        sides("at", TermTests::some, 0, 999, BOUNDS, (x, n) -> x.at(7, n));
        sides("by", TermTests::some, 0, 999, BOUNDS, (x, n) -> x.by(7, n, 0));
        sides("beneath", TermTests::some, 0, 999, BOUNDS, (x, n) -> x.beneath(7, n, 0));
        sides("lack", TermTests::some, 0, 999, BOUNDS, (x, n) -> x.lack(7, n, 0));
        sides("change", TermTests::some, 0, 999, BOUNDS, (x, n) -> x.change(7, n, false));
        sides("change back", TermTests::some, 0, 999, BOUNDS, (x, n) -> x.change(7, n, true));
        sides("run", TermTests::some, 0, 999, BOUNDS, (x, n) -> x.run(7, n));
        sides("first", TermTests::some, 0, 999, BOUNDS, (x, n) -> x.first(7, n, 0));
        sides("nearest", TermTests::some, 0, 999, BOUNDS, (x, n) -> x.nearest(7, n));
        sides("rest", TermTests::some, 0, 999, BOUNDS, (x, n) -> x.rest(7, n));
        sides("early", TermTests::some, 0, 999, BOUNDS, (x, n) -> x.early(7, n, 0));
        sides("cut", TermTests::some, 1, 999, ARGUMENT, (x, n) -> x.cut(0, n));
    }

    private static void thingsAre0To7() {
        sides("fact", TermTests::wide, 0, 7, BOUNDS, (x, n) -> x.fact(n, 0, 0, 1, 0));
        sides("cut", TermTests::wide, 0, 7, BOUNDS, (x, n) -> x.cut(n, 5));
        sides("off", TermTests::wide, 0, 7, BOUNDS, (x, n) -> x.off(n));
        sides("at", TermTests::wide, 0, 7, BOUNDS, (x, n) -> x.at(n, 0));
        sides("by", TermTests::wide, 0, 7, BOUNDS, (x, n) -> x.by(n, 0, 0));
        sides("beneath", TermTests::wide, 0, 7, BOUNDS, (x, n) -> x.beneath(n, 0, 0));
        sides("span", TermTests::wide, 0, 7, BOUNDS, (x, n) -> x.span(n, 0, 0));
        sides("gap", TermTests::wide, 0, 7, BOUNDS, (x, n) -> x.gap(n, 0, 0));
        sides("lack", TermTests::wide, 0, 7, BOUNDS, (x, n) -> x.lack(n, 0, 0));
        sides("change", TermTests::wide, 0, 7, BOUNDS, (x, n) -> x.change(n, 0, false));
        sides("change back", TermTests::wide, 0, 7, BOUNDS, (x, n) -> x.change(n, 0, true));
        sides("run", TermTests::wide, 0, 7, BOUNDS, (x, n) -> x.run(n, 0));
        sides("first", TermTests::wide, 0, 7, BOUNDS, (x, n) -> x.first(n, 0, 0));
        sides("together", TermTests::wide, 0, 7, BOUNDS, (x, n) -> x.together(n, 0));
        sides("together with", TermTests::wide, 0, 7, BOUNDS, (x, n) -> x.together(0, n));
        sides("thing", TermTests::wide, 0, 7, BOUNDS, (x, n) -> x.thing(n, 0));
        sides("often", TermTests::wide, 0, 7, BOUNDS, (x, n) -> x.often(n, 0));
        sides("nearest", TermTests::wide, 0, 7, BOUNDS, (x, n) -> x.nearest(n, 0));
        sides("rest", TermTests::wide, 0, 7, BOUNDS, (x, n) -> x.rest(n, 0));
        sides("longest", TermTests::wide, 0, 7, BOUNDS, (x, n) -> x.longest(n, false));
        sides("longest gap", TermTests::wide, 0, 7, BOUNDS, (x, n) -> x.longest(n, true));
        sides("pairs", TermTests::wide, 0, 7, BOUNDS, (x, n) -> x.pairs(n, 0, 0));
        sides("pairs with", TermTests::wide, 0, 7, BOUNDS, (x, n) -> x.pairs(0, n, 0));
        sides("early", TermTests::wide, 0, 7, BOUNDS, (x, n) -> x.early(n, 0, 0));
    }

    private static void sourcesAreAtMost8() {
        FactLines x = new FactLines();
        fails(BOUNDS, "heard without a source", () -> x.heard(0, 0));
        fails(BOUNDS, "accord without a source", () -> x.accord(0, 1));
        refused(x, 2, "hush without a source", () -> x.hush(0, false));
        for (int i = 0; i < 8; i++) {
            due("source", x.source(i), i);
        }
        refused(x, 1, "the ninth", () -> x.source(0));
        due("sources", x.count(0), 8);
        due("the eighth of ORDER", x.order(7), 0);
        badBy(of(times(8, "source 1")), 1, "source 5", 0);
        badBy(new FactLines(), 1, times(9, "source 1"), 72);
        badBy(of("source 1"), 1, times(8, "source 1"), 63);
        right(new FactLines(), times(8, "source 1"), 8);
        sides("heard", TermTests::wide, 0, 7, BOUNDS, (y, n) -> y.heard(n, 3));
        sides("accord", TermTests::wide, 0, 7, BOUNDS, (y, n) -> y.accord(n, 1));
        sides("accord with", TermTests::wide, 0, 7, BOUNDS, (y, n) -> y.accord(1, n));
        sides("fact", TermTests::wide, 0, 7, STATE, (y, n) -> y.fact(0, n, 0, 1, 0));
        sides("hush", TermTests::wide, 0, 7, STATE, (y, n) -> y.hush(n, false));
        sides("rank", TermTests::wide, 0, 7, STATE, (y, n) -> y.rank(n, 5));
    }

    private static void ranksAre0To99() {
        sides("source", FactLines::new, 0, 99, ARGUMENT, (x, n) -> x.source(n));
        sides("rank", TermTests::some, 0, 99, ARGUMENT, (x, n) -> x.rank(0, n));
        FactLines x = of("source 0;source 99");
        due("rank 0", x.heard(0, 0), 0);
        due("rank 99", x.heard(1, 0), 99);
    }

    private static void aNewSourceIsNotSilent() {
        FactLines x = new FactLines();
        x.source(1);
        x.hush(0, false);
        x.undo();
        x.undo();
        due("source", x.source(2), 0);
        due("in the place of a silent one", x.heard(0, 1), 0);
        due("rank", x.heard(0, 0), 2);
        FactLines y = of(times(8, "source 1"));
        y.image();
        tell(y, "hush 7");
        y.back();
        due("back", y.heard(7, 1), 0);
    }

    private static void aNewFactIsNotWithdrawn() {
        FactLines x = of("source 1");
        x.fact(0, 0, 0, 5, 1);
        x.drop(0);
        x.undo();
        x.undo();
        due("fact", x.fact(1, 0, 2, 6, 3), 0);
        int[] told = {1, 0, 2, 6, 3, 0};
        for (int what = 0; what < 6; what++) {
            due("in the place of a withdrawn one, what " + what, x.told(0, what), told[what]);
        }
        due("it holds", x.at(1, 2), 3);
        FactLines y = of("source 1");
        y.image();
        y.fact(0, 0, 0, 5, 1);
        y.drop(0);
        y.back();
        y.fact(0, 0, 0, 5, 1);
        due("behind the image", y.told(0, 5), 0);
        FactLines z = of("source 1");
        bad(z, "fact 0 0 0 5 1;drop 0;drop", 26);
        z.fact(0, 0, 0, 5, 1);
        due("behind a wrong text", z.told(0, 5), 0);
    }

    private static void factsAreAtMost60() {
        FactLines x = new FactLines();
        fails(BOUNDS, "told without a fact", () -> x.told(0, 0));
        fails(BOUNDS, "better without a fact", () -> x.better(0, 0));
        fails(BOUNDS, "shared without a fact", () -> x.shared(0, 0));
        refused(x, 5, "drop without a fact", () -> x.drop(0));
        FactLines y = factsOf(59);
        due("the sixtieth", y.fact(0, 0, 0, 1, 0), 59);
        refused(y, 4, "the sixty-first", () -> y.fact(0, 0, 0, 1, 0));
        due("facts", y.count(1), 60);
        right(factsOf(59), "fact 0 0 0 1 0", 1);
        badBy(factsOf(60), 4, "fact 0 0 0 1 0", 0);
        badBy(factsOf(59), 4, "fact 0 0 0 1 0;fact 0 0 0 1 0", 15);
        sides("told", TermTests::full, 0, 59, BOUNDS, (z, n) -> z.told(n, 7));
        sides("how", TermTests::full, 0, 59, BOUNDS, (z, n) -> z.how(n, 5));
        sides("how to", TermTests::full, 0, 59, BOUNDS, (z, n) -> z.how(5, n));
        sides("shared", TermTests::full, 0, 59, BOUNDS, (z, n) -> z.shared(n, 5));
        sides("shared with", TermTests::full, 0, 59, BOUNDS, (z, n) -> z.shared(5, n));
        sides("better", TermTests::full, 0, 59, BOUNDS, (z, n) -> z.better(n, 5));
        sides("better than", TermTests::full, 0, 59, BOUNDS, (z, n) -> z.better(5, n));
        sides("drop", TermTests::full, 0, 59, STATE, (z, n) -> z.drop(n));
        sides("early", TermTests::full, 0, 60, ARGUMENT, (z, n) -> z.early(0, 0, n));
    }

    private static void cutsFillUpTo60() {
        FactLines x = factsOf(30);
        due("thirty more", x.cut(0, 500), 30);
        due("facts", x.count(1), 60);
        refused(x, 4, "full", () -> x.cut(0, 250));
        refused(x, 6, "full, but none to cut", () -> x.cut(0, 500));
        due("nothing was cut", x.told(0, 3), 500);
        FactLines y = factsOf(31);
        refused(y, 4, "thirty-one more", () -> y.cut(0, 500));
        due("facts", y.count(1), 31);
        due("nothing was cut", y.told(0, 3), 1000);
        y.drop(30);
        refused(y, 4, "thirty more", () -> y.cut(0, 500));
        y.drop(29);
        due("withdrawn ones aren't cut", y.cut(0, 500), 29);
        due("facts", y.count(1), 60);
    }

    private static void theFullOneAnswers() {
        FactLines x = full();
        for (int i = 0; i < 60; i++) {
            due("reign " + i, x.told(i, 6), 8);
            due("touch " + i, x.told(i, 7), 8);
            due("at " + i, x.at(i % 8, 16 * i + 8), i);
            due("behind " + i, x.at(i % 8, 16 * i + 9), NONE);
        }
        int[] counts = {8, 60, 0, 0, 0, 0, 60, 8};
        for (int what = 0; what < 8; what++) {
            due("count " + what, x.count(what), counts[what]);
        }
        for (int n = 0; n < 8; n++) {
            due("facts of source " + n, x.heard(n, 2), n < 4 ? 8 : 7);
            due("voice " + n, x.heard(n, 3), n < 4 ? 64 : 56);
            due("order " + n, x.order(n), 7 - n);
            due("spans " + n, x.span(n, NONE, 0), n < 4 ? 8 : 7);
            due("gaps " + n, x.gap(n, NONE, 0), n < 4 ? 9 : 8);
            due("last span " + n, x.span(n, n < 4 ? 7 : 6, 1), 16 * (n < 4 ? 56 + n : 48 + n) + 9);
            due("last gap " + n, x.gap(n, n < 4 ? 8 : 7, 1), 1000);
            due("dispute " + n, x.thing(n, 2), 0);
            due("times " + n, x.thing(n, 1), n < 4 ? 64 : 56);
            due("facts of thing " + n, x.thing(n, 0), n < 4 ? 8 : 7);
        }
        due("order 8", x.order(8), NONE);
        due("idle", x.idle(0), NONE);
        due("accord", x.accord(6, 7), 100);
        due("together", x.together(6, 7), 0);
        due("run", x.run(0, 999), 1000 - 16 * 56 - 9);
        due("longest", x.longest(3, false), 0);
        due("longest gap", x.longest(3, true), 1);
        due("pairs", x.pairs(2, 3, 0), 36);
        due("beneath", x.beneath(3, 945, NONE), 1);
        due("beneath 0", x.beneath(3, 945, 0), 59);
        due("early", x.early(3, 945, 59), NONE);
        due("early", x.early(3, 945, 60), 59);
        due("sum", x.thing(3, 3), 8 * (3 + 11 + 19 + 27 + 35 + 43 + 51 + 59));
    }

    private static void theFullOneByRules() {
        FactLines x = full();
        StringBuilder all = new StringBuilder("thing 0");
        for (int thing = 1; thing < 7; thing++) {
            all.append(" else thing ").append(thing);
        }
        tell(x, "rule 7 is " + all + ";rule 6 is thing 5 else 1;rule 5 is 0");
        due("rules", x.count(4), 3);
        due("spans of 5", x.span(5, NONE, 0), 15);
        due("spans of 6, one value as thing 5 but where facts lie", x.often(6, 0), 1000 - 7 * 8 - 7 * 8);
        due("by facts of 0", x.often(7, 56), 8);
        due("by its own facts", x.often(7, 7), 8);
        due("touch of a fact of 0", x.told(56, 7), 16);
        due("touch of a fact of 5", x.told(5, 7), 24);
        for (int source = 0; source < 8; source++) {
            x.hush(source, false);
        }
        due("all silent", x.count(3), 8);
        due("all idle", x.count(5), 60);
        due("the last that is idle", x.idle(59), 59);
        due("idle 60", x.idle(60), NONE);
        for (int i = 0; i < 60; i++) {
            x.drop(i);
        }
        due("all withdrawn", x.count(2), 60);
        due("none idle", x.count(5), 0);
        due("spans", x.count(6), 3);
        refused(x, 4, "still full", () -> x.fact(0, 0, 0, 1, 0));
    }

    private static void fromIsLessThanTo() {
        sides("from", TermTests::some, 0, 999, ARGUMENT, (x, n) -> n == 1000 ? x.fact(0, 0, 1001, 1000, 0) : x.fact(0, 0, n, 1000, 0));
        sides("to", TermTests::some, 1, 1000, ARGUMENT, (x, n) -> n == 0 ? x.fact(0, 0, 0, -1, 0) : x.fact(0, 0, 0, n, 0));
        FactLines x = some();
        refused(x, 3, "from 1000 is a number", () -> x.fact(0, 0, 1000, 1000, 0));
        refused(x, 3, "to 0 is a number", () -> x.fact(0, 0, 0, 0, 0));
        refused(x, 3, "from 1000, to 0", () -> x.fact(0, 0, 1000, 0, 0));
        refused(x, 3, "from one above to", () -> x.fact(0, 0, 501, 500, 0));
        refused(x, 3, "from as to", () -> x.fact(0, 0, 500, 500, 0));
        due("from one below to", x.fact(0, 0, 499, 500, 0), 2);
        due("one time", x.told(2, 6), 1);
        badBy(some(), 3, "fact 0 0 500 500 1", 0);
        badBy(some(), 3, "fact 0 0 999 1 1", 0);
        right(some(), "fact 0 0 499 500 1", 1);
    }

    private static void timesFromFromOnToNot() {
        FactLines x = of("source 1;fact 0 0 0 1 5;fact 1 0 999 1000 6;fact 2 0 0 1000 7;fact 3 0 500 501 8");
        int[][] due = {{5, NONE, NONE, NONE, NONE, NONE}, {NONE, NONE, NONE, NONE, NONE, 6}, {7, 7, 7, 7, 7, 7},
            {NONE, NONE, NONE, 8, NONE, NONE}};
        int[] times = {0, 1, 499, 500, 501, 999};
        for (int thing = 0; thing < 4; thing++) {
            for (int i = 0; i < times.length; i++) {
                due("thing " + thing + " at " + times[i], x.at(thing, times[i]), due[thing][i]);
            }
        }
    }

    private static void valuesAre0To99() {
        sides("fact", TermTests::some, 0, 99, ARGUMENT, (x, n) -> x.fact(0, 0, 0, 1, n));
        sides("first", TermTests::some, 0, 99, ARGUMENT, (x, n) -> x.first(0, 0, n));
        sides("often", TermTests::some, 0, 99, ARGUMENT, (x, n) -> x.often(0, n));
        FactLines x = some();
        x.fact(5, 0, 0, 1, 0);
        x.fact(5, 0, 1, 2, 99);
        due("value 0", x.at(5, 0), 0);
        due("value 99", x.at(5, 1), 99);
        due("told 99", x.told(3, 4), 99);
    }

    private static void aFactHolds() {
        FactLines x = of("source 1;source 1;fact 0 0 5 10 1;fact 0 1 5 10 2;fact 1 1 5 10 3");
        due("of two", x.beneath(0, 5, NONE), 2);
        due("ahead", x.beneath(0, 4, NONE), 0);
        due("at the last", x.beneath(0, 9, NONE), 2);
        due("behind", x.beneath(0, 10, NONE), 0);
        x.hush(1, false);
        due("not of a silent one", x.beneath(0, 5, NONE), 1);
        due("of no thing", x.beneath(1, 5, NONE), 0);
        x.drop(0);
        due("not withdrawn", x.beneath(0, 5, NONE), 0);
        x.hush(1, true);
        due("heard again", x.beneath(0, 5, NONE), 1);
        due("the other one alone", x.at(0, 5), 2);
    }

    /** Of two facts the first is better: it's asked, it holds, and it is above the other one. */
    private static void oneIsBetter(String why, String one, String other) {
        for (int turned = 0; turned < 2; turned++) {
            FactLines x = of("source 5;source 6;source 5;" + (turned == 0 ? one + ";" + other : other + ";" + one));
            due(why + " is better", x.better(turned, 1 - turned), true);
            due(why + ", the other one isn't", x.better(1 - turned, turned), false);
            due(why + " is ahead", x.by(0, 50, 0), turned);
            due(why + ", beneath", x.beneath(0, 50, 1), 1 - turned);
        }
    }

    private static void betterByTurns() {
        oneIsBetter("the greater rank", "fact 0 1 0 1000 0", "fact 0 0 50 51 99");
        oneIsBetter("of like ranks the lesser source", "fact 0 0 0 1000 0", "fact 0 2 50 51 99");
        oneIsBetter("of one source fewer times", "fact 0 0 20 60 0", "fact 0 0 50 91 99");
        oneIsBetter("of like times the later from", "fact 0 0 21 61 0", "fact 0 0 20 60 99");
        oneIsBetter("of like ones the greater value", "fact 0 0 20 60 9", "fact 0 0 20 60 8");
        FactLines x = of("source 5;fact 0 0 20 60 9;fact 0 0 20 60 9");
        due("of all alike the lesser number", x.better(0, 1), true);
        due("not the greater one", x.better(1, 0), false);
        due("by it", x.by(0, 50, 0), 0);
        due("not than itself", x.better(1, 1), false);
        tell(x, "source 4;fact 0 1 20 60 9");
        due("rank", x.better(0, 2), true);
        x.rank(1, 5);
        due("of like ranks", x.better(0, 2), true);
        x.rank(1, 6);
        due("ranked above", x.better(0, 2), false);
        due("ranked above, turned", x.better(2, 0), true);
    }

    // ---- Terms 1: rules ----

    private static void ofEachThingAtMostOneRule() {
        FactLines x = of("rule 3 is 5;rule 3 is thing 1 + thing 2");
        due("rules", x.count(4), 1);
        due("things of the latter alone", x.thing(3, 5), 6);
        due("atoms of the latter alone", x.thing(3, 4), 2);
        tell(x, "rule 3 is 7");
        due("no things of the one ahead", x.thing(3, 5), 0);
        due("of the latter", x.at(3, 0), 7);
        StringBuilder all = new StringBuilder("rule 0 is 1");
        for (int i = 1; i < 8; i++) {
            all.append(";rule ").append(i).append(" is thing ").append(i - 1);
        }
        FactLines y = of(all.toString());
        due("eight rules", y.count(4), 8);
        due("one out of another", y.at(7, 999), 1);
        due("off", y.off(7), 1);
        due("seven", y.count(4), 7);
    }

    private static void ofThingsOfLesserNumbers() {
        for (int thing = 0; thing < 8; thing++) {
            String begin = "rule " + thing + " is thing ";
            for (int other = 0; other < 8; other++) {
                if (other < thing) {
                    FactLines x = new FactLines();
                    right(x, begin + other, 1);
                    due("things", x.thing(thing, 5), 1 << other);
                } else {
                    bad(new FactLines(), begin + other, begin.length());
                    bad(new FactLines(), "rule " + thing + " is 1 + ( 2 else thing " + other + ")", 29);
                }
            }
        }
    }

    private static void what(String rule, int due) {
        FactLines x = of("source 1;fact 1 0 0 1000 5;fact 2 0 0 1000 99;fact 3 0 0 1000 0;rule 7 is " + rule);
        due(rule, x.at(7, 500), due);
        due(rule + " by what", x.by(7, 500, 2), due == NONE ? 2 : 1);
    }

    private static void whatComesIs0To99() {
        what("98 + 1", 99);
        what("99 + 1", NONE);
        what("99 + thing 2", NONE);
        what("1 - 1", 0);
        what("1 - 2", NONE);
        what("0 - thing 2", NONE);
        what("0 + 0", 0);
        what("0", 0);
        what("99", 99);
        what("thing 3", 0);
        what("thing 2 + thing 3", 99);
        what("99 + 1 - 1", NONE);
        what("99 - 1 + 1", 99);
        what("99 + (1 - 1)", 99);
        what("(99 + 1) else 3", 3);
    }

    private static void bothMustBeSomething() {
        for (String sign : new String[] {"+", "-", "min", "max"}) {
            what("thing 0 " + sign + " 1", NONE);
            what("1 " + sign + " thing 0", NONE);
            what("thing 0 " + sign + " thing 0", NONE);
        }
        what("7 min 3", 3);
        what("3 min 7", 3);
        what("7 max 3", 7);
        what("3 max 7", 7);
        what("4 min 4", 4);
        what("4 max 4", 4);
        what("0 max 99", 99);
        what("0 min 99", 0);
        what("7 - 3", 4);
        what("7 + 3", 10);
    }

    private static void elseWhileUnless() {
        String[] signs = {"else", "while", "unless"};
        int[][] due = {{5, 5, 0, NONE}, {5, NONE, NONE, NONE}, {NONE, 5, NONE, NONE}};
        for (int i = 0; i < 3; i++) {
            what("thing 1 " + signs[i] + " thing 3", due[i][0]);
            what("thing 1 " + signs[i] + " thing 0", due[i][1]);
            what("thing 0 " + signs[i] + " thing 3", due[i][2]);
            what("thing 0 " + signs[i] + " thing 4", due[i][3]);
        }
    }

    private static void partsFromTheLeftOn() {
        what("9 - 3 - 2", 4);
        what("9 - (3 - 2)", 8);
        what("9 - 3 + 2", 8);
        what("9 min 3 max 7", 7);
        what("9 max 3 min 7", 7);
        what("9 max (3 min 7)", 9);
        what("1 min 2 + 3", 4);
        what("3 + 1 min 2", 2);
        what("thing 0 else 3 while thing 0", NONE);
        what("thing 0 else (3 while thing 0)", NONE);
        what("thing 1 else (3 while thing 0)", 5);
        what("thing 1 else 3 while thing 0", NONE);
        what("3 unless thing 1 else 4", 4);
        what("3 unless (thing 1 else 4)", NONE);
        what("1 + thing 0 else 3", 4);
        what("(1 + thing 0) else 3", 3);
        what("thing 0 else 3 + 1", 4);
        what("2 + thing 1 while thing 0 max 3", NONE);
        what("20 - 2 else 3 - 4 unless thing 0", 14);
    }

    private static void aThingIs() {
        FactLines x = of("source 1;source 1;fact 1 0 10 20 1;rule 1 is thing 0 else 6");
        due("by its fact", x.at(1, 10), 1);
        due("without one by rule", x.at(1, 9), 6);
        tell(x, "hush 0");
        due("a silent one is none", x.at(1, 10), 6);
        tell(x, "rule 1 is thing 0");
        due("else nothing", x.at(1, 10), NONE);
        due("nothing without both", x.at(2, 10), NONE);
    }

    // ---- Terms 1: texts ----

    /** Behind a beginning just some things can stand; all others are wrong where they begin. */
    private static void stands(String beginning, boolean endStands, String... can) {
        List<String> allowed = Arrays.asList(can);
        int at = beginning.length() + 1;
        for (String next : VOCABULARY) {
            FactLines x = some();
            put(x, beginning + " " + next + " ?");
            fails(ARGUMENT, "text " + beginning + " " + next + " ?", x::acts);
            due("text " + beginning + " " + next + " ?", x.fault(), allowed.contains(next) ? at + next.length() + 1 : at);
        }
        for (String blanks : new String[] {"", " ", "  "}) {
            FactLines x = some();
            put(x, beginning + blanks);
            outcome(x::acts);
            due("text " + beginning + blanks, x.fault(), endStands ? NONE : beginning.length() + blanks.length());
        }
    }

    private static String[] with(String[] some, String... more) {
        String[] all = Arrays.copyOf(some, some.length + more.length);
        System.arraycopy(more, 0, all, some.length, more.length);
        return all;
    }

    private static void wordsOfActsInTheirPlaces() {
        stands("", true, ACTS);
        stands("source 1;", false, ACTS);
        stands("source", false, "1");
        stands("source 1", true, ";");
        stands("fact", false, "1");
        stands("fact 1", false, "1");
        stands("fact 1 0", false, "1");
        stands("fact 1 0 0", false, "1");
        stands("fact 1 0 0 1", false, "1");
        stands("fact 1 0 0 1 1", true, ";");
        stands("drop", false, "1");
        stands("drop 1", true, ";");
        stands("hear 1; hush", false, "1");
        stands("hush 0", true, ";");
        stands("hear", false, "1");
        stands("hear 1", true, ";");
        stands("rank", false, "1");
        stands("rank 1", false, "1");
        stands("rank 1 1", true, ";");
        stands("cut", false, "1");
        stands("cut 0", false, "at");
        stands("cut 0 at", false, "1");
        stands("cut 0 at 1", true, ";");
        stands("rule", false, "1");
        stands("rule 1", false, "is", "off");
        stands("rule 1 off", true, ";");
    }

    private static void wordsOfRulesInTheirPlaces() {
        String[] begins = {"thing", "1", "("};
        stands("rule 7 is", false, begins);
        stands("rule 7 is thing", false, "1");
        stands("rule 7 is thing 1", true, with(SIGNS, ";"));
        stands("rule 7 is 1", true, with(SIGNS, ";"));
        for (String sign : SIGNS) {
            stands("rule 7 is 1 " + sign, false, begins);
            stands("rule 7 is (thing 1 " + sign, false, begins);
            stands("rule 7 is 1 " + sign + " 1", true, with(SIGNS, ";"));
        }
        stands("rule 7 is (", false, begins);
        stands("rule 7 is (1", false, with(SIGNS, ")"));
        stands("rule 7 is (1)", true, with(SIGNS, ";"));
        stands("rule 7 is ((1)", false, with(SIGNS, ")"));
        stands("rule 7 is (1) +", false, begins);
        stands("rule 7 is 1 + (thing 1", false, with(SIGNS, ")"));
    }

    private static void ofARuleAtMost12Atoms() {
        FactLines x = new FactLines();
        right(x, "rule 7 is " + TWELVE, 1);
        due("atoms", x.thing(7, 4), 12);
        due("sum", x.at(7, 0), 78);
        String all = "rule 7 is " + TWELVE;
        stands(all, true, with(SIGNS, ";"));
        stands(all + "+", false, "(");
        stands(all + " unless", false, "(");
        stands("rule 7 is (" + TWELVE, false, with(SIGNS, ")"));
        stands("rule 7 is (" + TWELVE + "+", false, "(");
        stands("rule 7 is (" + TWELVE + ")", true, with(SIGNS, ";"));
        bad(x, all + "+13", all.length() + 1);
        bad(x, all + "+ thing 1", all.length() + 2);
        bad(x, all + "+ (thing 1)", all.length() + 3);
        bad(x, all + "+)", all.length() + 1);
        bad(x, all + "+;rule 7 off", all.length() + 1);
        due("the one ahead stays", x.at(7, 0), 78);
        FactLines y = new FactLines();
        right(y, "rule 7 is (thing 0+thing 1)+(thing 2+(thing 3 else thing 4)+thing 5)+thing 6+(1+(2+(3+(4+5))))", 1);
        due("atoms that are things too", y.thing(7, 4), 12);
        due("things", y.thing(7, 5), 127);
        due("off", y.off(7), 12);
        right(y, all + ";rule 6 is " + TWELVE, 2);
        due("each rule has its own", y.at(6, 5), 78);
    }

    private static void atMost4BracketsWithinOneAnother() {
        FactLines x = new FactLines();
        right(x, "rule 7 is ((((9))))", 1);
        due("four", x.at(7, 0), 9);
        stands("rule 7 is ((((", false, "thing", "1");
        stands("rule 7 is (((", false, "thing", "1", "(");
        stands("rule 7 is (((1", false, with(SIGNS, ")"));
        stands("rule 7 is ((((1", false, with(SIGNS, ")"));
        stands("rule 7 is ((((1)", false, with(SIGNS, ")"));
        stands("rule 7 is ((((1))))", true, with(SIGNS, ";"));
        stands("rule 7 is ((((1)+", false, "thing", "1", "(");
        stands("rule 7 is ((((1)+(", false, "thing", "1");
        stands("rule 7 is ((((1+", false, "thing", "1");
        bad(x, "rule 7 is (((((9)))))", 14);
        bad(x, "rule 7 is 1 + (2 + (3 + (4 + (5 + (6)))))", 34);
        right(x, "rule 7 is (1)+(2)+(3)+(4)+(5)+(6)", 1);
        due("one behind another they are no more", x.at(7, 0), 21);
        right(x, "rule 7 is ((((1))))+((((2))))", 1);
        due("twice four", x.at(7, 0), 3);
        right(x, "rule 7 is 1+thing 0 else(2+thing 0 else(3+thing 0 else(4+thing 0 else(5+thing 0 else 6))))", 1);
        due("all that waits", x.at(7, 0), 21);
        right(x, "rule 7 is 90-(70-(50-(30-(20-5))))", 1);
        due("from within", x.at(7, 0), 90 - (70 - (50 - (30 - (20 - 5)))));
    }

    private static void ofAWrongRuleNothingWaits() {
        String[] wrong = {"rule 7 is 1 + (2 else", "rule 7 is ((((1 + 2", "rule 7 is 9 - (9 - (9 -", "rule 7 is (((((", "rule 7 is 1 + 1)"};
        for (String text : wrong) {
            FactLines x = new FactLines();
            put(x, text);
            fails(ARGUMENT, text, x::acts);
            right(x, "rule 7 is 8 - 3 + 1", 1);
            due("behind " + text, x.at(7, 0), 6);
            due("atoms behind " + text, x.thing(7, 4), 3);
            due("things behind " + text, x.thing(7, 5), 0);
        }
    }

    private static void anActTooMany() {
        String acts = times(14, "rule 7 is 1");
        right(new FactLines(), acts, 14);
        right(new FactLines(), times(13, "rule 7 is 1"), 13);
        stands(times(14, "rank 0 1"), true, ";");
        stands(times(14, "rank 0 1") + ";", false);
        stands(times(13, "rank 0 1") + ";", false, ACTS);
        badBy(new FactLines(), 0, acts + " ;  drop 59", acts.length() + 4);
        badBy(new FactLines(), 0, acts + ";hush", acts.length() + 1);
        bad(new FactLines(), acts + " rule", acts.length() + 1);
        FactLines x = new FactLines();
        bad(x, acts + ";rule 7 is 1", acts.length() + 1);
        due("nothing of it stays", x.count(4), 0);
    }

    /** A number in a text: on each side the last that is allowed, the first that isn't. */
    private static void numbers(Supplier<FactLines> made, String ahead, int low, int high, String behind) {
        int at = ahead.length();
        int acts = (ahead + behind).split(";").length;
        for (int n : new int[] {low, high}) {
            right(made.get(), ahead + n + behind, acts);
            right(made.get(), ahead + String.format("%04d", n) + behind, acts);
            bad(made.get(), ahead + String.format("%05d", n) + behind, at);
            bad(made.get(), ahead + "-" + n + behind, at);
        }
        for (int n : new int[] {high + 1, 9999, 10000, 65536 + low}) {
            bad(made.get(), ahead + n + behind, at);
        }
        if (low > 0) {
            bad(made.get(), ahead + (low - 1) + behind, at);
        }
        bad(made.get(), ahead + "4294967296" + behind, at);
        bad(made.get(), ahead + "00000000000000000000" + low + behind, at);
    }

    private static void numbersOfTexts() {
        numbers(FactLines::new, "source ", 0, 99, "");
        numbers(TermTests::wide, "fact ", 0, 7, " 0 5 6 7");
        numbers(TermTests::wide, "fact 0 ", 0, 7, " 5 6 7");
        numbers(TermTests::wide, "fact 0 0 ", 0, 999, " 1000 7");
        numbers(TermTests::wide, "fact 0 0 0 ", 1, 1000, " 7");
        numbers(TermTests::wide, "fact 0 0 0 9 ", 0, 99, "");
        numbers(TermTests::full, "drop ", 0, 59, "");
        numbers(TermTests::wide, "hush ", 0, 7, "");
        numbers(TermTests::wide, "hush 0;hush 7;hear ", 0, 7, "");
        numbers(TermTests::wide, "rank ", 0, 7, " 9");
        numbers(TermTests::wide, "rank 0 ", 0, 99, "");
        numbers(TermTests::wide, "cut ", 0, 7, " at 9");
        numbers(TermTests::wide, "cut 0 at ", 1, 999, "");
        numbers(TermTests::wide, "rule ", 0, 7, " is 1");
        numbers(TermTests::wide, "rule ", 0, 7, " off");
        numbers(TermTests::wide, "rule 0 is ", 0, 99, "");
        numbers(TermTests::wide, "rule 0 is 0 else (", 0, 99, ")");
        numbers(TermTests::wide, "rule 7 is thing ", 0, 6, " + 1");
        numbers(TermTests::wide, "rule 1 is 1 max thing ", 0, 0, "");
    }

    private static void whatATextTellsIsTold() {
        FactLines x = new FactLines();
        right(x, "source 0;source 99;fact 7 1 0 1000 99;fact 0 0 999 1000 0;rank 0 98;hush 1;cut 7 at 999;drop 1", 8);
        int[][] told = {{7, 1, 0, 999, 99, 0}, {0, 0, 999, 1000, 0, 1}, {7, 1, 999, 1000, 99, 0}};
        for (int fact = 0; fact < 3; fact++) {
            for (int what = 0; what < 6; what++) {
                due("fact " + fact + " what " + what, x.told(fact, what), told[fact][what]);
            }
        }
        due("rank", x.heard(0, 0), 98);
        due("silent", x.heard(1, 1), 1);
        right(x, "hear 1", 1);
        due("heard", x.heard(1, 1), 0);
        right(x, "rule 1 is thing 0 else 5;rule 2 is 9;rule 2 off", 3);
        due("rule", x.at(1, 0), 5);
        due("off", x.thing(2, 4), NONE);
    }

    private static void eachActAloneDoesNoMore() {
        // Things 0 and 1 lie under all that an act of another kind could do with its numbers.
        FactLines x = of("source 1;source 2;fact 0 0 0 1000 1;fact 1 1 0 1000 1;rule 0 is 1;rule 1 is 1");
        x.rank(1, 5);
        due("rank cuts nothing", x.count(1), 2);
        x.cut(1, 7);
        due("cut leaves the rule", x.count(4), 2);
        due("cut leaves what is withdrawn", x.count(2), 0);
        x.hush(1, false);
        due("hush leaves the rank", x.heard(1, 0), 5);
        due("hush leaves the facts", x.count(2), 0);
        x.hush(1, true);
        due("hear leaves the rank", x.heard(1, 0), 5);
        x.drop(1);
        due("drop leaves the sources", x.count(3), 0);
        x.source(1);
        due("source leaves the facts", x.count(1), 3);
        x.off(1);
        due("off takes one alone", x.count(4), 1);
        x.off(0);
        due("off leaves no rule behind", x.count(4), 0);
        x.fact(1, 0, 5, 6, 9);
        due("fact leaves what is withdrawn", x.count(2), 1);
    }

    private static void blanksAndWords() {
        String spaced = "  rule  7  is  (  thing  6  +  1  )  max  5  ;  source  9  ;  cut  0  at  5  ";
        right(wideBut1(), spaced, 3);
        right(wideBut1(), "rule7is(thing6+1)max5;source9;cut0at5", 3);
        bad(wideBut1(), "rule7is(thing6)max5;source9;cut0a t5", 32);
        bad(wideBut1(), "ru le 7 is 1", 0);
        bad(wideBut1(), "rule 7 isthing 6", 7);
        bad(wideBut1(), "rule 7 is thing6max5min4maxx", 24);
        bad(wideBut1(), "cutatcut", 0);
        bad(wideBut1(), "source1\t", 7);
        bad(wideBut1(), "\tsource1", 0);
        bad(wideBut1(), "source\r1", 6);
        bad(wideBut1(), "source 1\0", 8);
        bad(wideBut1(), "\0", 0);
        bad(wideBut1(), "source 1 \u00ff", 9);
        bad(wideBut1(), "sourc\u0065\u00e9 1", 6);
        bad(wideBut1(), "SOURCE 1", 0);
        bad(wideBut1(), "sourcE 1", 0);
        bad(wideBut1(), "sourc", 0);
        bad(wideBut1(), "sources", 0);
        bad(wideBut1(), "`ource 1", 0);
        bad(wideBut1(), "{", 0);
        bad(wideBut1(), "source /", 7);
        bad(wideBut1(), "source :", 7);
        bad(wideBut1(), "source 1 2", 9);
        bad(wideBut1(), "source 9 9", 9);
    }

    private static FactLines wideBut1() {
        return of("source 50;fact 0 0 0 1000 1");
    }

    private static void aTextEndsWhereItEnds() {
        // What was fed behind its end is no part of the text, though it could go on.
        FactLines x = of("source 1;rule 1 is 1");
        feedAndEnd(x, "source 12345        ", 9);
        due("acts", outcome(x::acts), "1");
        due("number", x.heard(1, 0), 12);
        feedAndEnd(x, "rule 1 offer        ", 10);
        due("acts", outcome(x::acts), "1");
        due("word", x.count(4), 0);
        feedAndEnd(x, "rule 1 is 1 + 2     ", 11);
        due("acts", outcome(x::acts), "1");
        due("rule", x.at(1, 0), 1);
        feedAndEnd(x, "source 1            ", 7);
        fails(ARGUMENT, "acts", x::acts);
        due("fault", x.fault(), 7);
        feedAndEnd(x, "source 1;source 2   ", 0);
        due("of none", outcome(x::acts), "0");
    }

    private static void feedAndEnd(FactLines x, String twenty, int n) {
        x.feed(word(twenty, 0), word(twenty, 4), word(twenty, 8), word(twenty, 12), word(twenty, 16));
        due("end", x.end(n), true);
    }

    private static void aTextOf400Bytes() {
        String[] ends = {"source 12", "source 1;rule 1 is 1;rule 1 off", "rule 7 is (1)"};
        for (String end : ends) {
            FactLines x = new FactLines();
            right(x, " ".repeat(400 - end.length()) + end, end.split(";").length);
        }
        FactLines y = new FactLines();
        right(y, " ".repeat(400), 0);
        bad(y, " ".repeat(394) + "source", 400);
        bad(y, " ".repeat(399) + ";", 399);
        bad(y, "(".repeat(400), 0);
        bad(y, "x".repeat(400), 0);
        bad(y, "source " + "1".repeat(393), 7);
        bad(y, "rule 1 is " + "(".repeat(390), 14);
        bad(y, "rule 1 is 1" + ";".repeat(389), 12);
        String wide = times(10, "rule 7 is 0000 + 0000 + 0000 + 0000 else");
        bad(y, wide.substring(0, 400), 40);
        StringBuilder dense = new StringBuilder("rule 7 is " + TWELVE.replaceAll("1[012]", "9"));
        while (dense.length() + 34 <= 400) {
            dense.append(";rule 7 is 9+9+9+9+9+9+9+9+9+9+9+9");
        }
        right(y, dense.toString(), 11);
    }

    private static void readWholeAheadOfBeingDone() {
        FactLines x = new FactLines();
        badBy(x, 0, "drop", 4);
        badBy(x, 0, "drop 60", 5);
        badBy(x, 0, "drop 00059", 5);
        badBy(x, 5, "drop 59 drop", 0);
        badBy(x, 5, "drop 59;drop", 0);
        badBy(of("source 1"), 0, "hush 0 at;drop 59", 7);
        badBy(x, 2, "fact 0 0 5 5 5 5", 0);
        badBy(new FactLines(), 0, "fact 0 0 5 5 100", 13);
        badBy(new FactLines(), 0, "fact 0 0 5 5", 12);
        badBy(new FactLines(), 0, "rule 1 is 1 1;drop 59", 12);
        badBy(new FactLines(), 0, "source 1;fact 0 0 0 5 5 x;drop 59", 24);
        badBy(new FactLines(), 6, "rule 1 off x", 0);
        badBy(new FactLines(), 6, "source 1; cut 0 at 5 is", 10);
        // One behind another: each finds what those ahead of it did.
        right(new FactLines(), "source 1;fact 0 0 0 9 1;cut 0 at 4;drop 1;hush 0;hear 0;rank 0 5;rule 1 is 1;rule 1 off", 9);
        badBy(new FactLines(), 5, "source 1;fact 0 0 0 9 1;drop 0;drop 0", 31);
        badBy(new FactLines(), 6, "rule 1 is 1;rule 1 off;rule 1 off", 23);
        badBy(new FactLines(), 6, "source 1;hush 0;hear 0;hear 0", 23);
    }

    // ---- Terms 2: refusals ----

    private static void eachRefusalByItsNumber() {
        FactLines x = of(times(8, "source 5"));
        refused(x, 1, "source", () -> x.source(5));
        badBy(of(times(8, "source 5")), 1, "source 5", 0);
        FactLines y = of("source 5;fact 0 0 0 9 1;fact 0 0 0 9 1;drop 1");
        refused(y, 2, "fact", () -> y.fact(0, 1, 0, 1, 0));
        refused(y, 2, "hush", () -> y.hush(1, false));
        refused(y, 2, "hear", () -> y.hush(1, true));
        refused(y, 2, "rank", () -> y.rank(1, 0));
        refused(y, 2, "rank -1", () -> y.rank(-1, 0));
        refused(y, 3, "fact", () -> y.fact(0, 0, 1, 1, 0));
        refused(y, 5, "drop 2", () -> y.drop(2));
        refused(y, 5, "drop -1", () -> y.drop(-1));
        refused(y, 5, "drop again", () -> y.drop(1));
        refused(y, 6, "hear", () -> y.hush(0, true));
        refused(y, 6, "cut at its from", () -> y.cut(1, 5));
        refused(y, 6, "cut at its to", () -> y.cut(0, 9));
        refused(y, 6, "off", () -> y.off(0));
        due("hush", y.hush(0, false), 1);
        refused(y, 6, "hush", () -> y.hush(0, false));
        String[] texts = {"fact 0 1 0 1 0", "hush 1", "hear 1", "rank 1 0", "fact 0 0 1 1 0", "drop 2", "drop 1", "hush 0",
            "cut 1 at 5", "cut 0 at 9", "rule 0 off"};
        int[] whys = {2, 2, 2, 2, 3, 5, 5, 6, 6, 6, 6};
        for (int i = 0; i < texts.length; i++) {
            badBy(y, whys[i], texts[i], 0);
            badBy(y, whys[i], "rank 0 5;  " + texts[i] + ";drop 0", 11);
        }
        badBy(y, 6, "hear 0;hear 0", 7);
    }

    private static void theOneToldFirst() {
        FactLines x = factsOf(60);
        refused(x, 2, "2 ahead of 3 and 4", () -> x.fact(0, 1, 5, 5, 0));
        refused(x, 2, "2 ahead of 4", () -> x.fact(0, 1, 5, 6, 0));
        refused(x, 3, "3 ahead of 4", () -> x.fact(0, 0, 5, 5, 0));
        refused(x, 4, "4", () -> x.fact(0, 0, 5, 6, 0));
        badBy(x, 2, "fact 0 1 5 5 0", 0);
        badBy(x, 3, "fact 0 0 5 5 0", 0);
        badBy(x, 4, "fact 0 0 5 6 0", 0);
        refused(x, 6, "6 where none is to cut", () -> x.cut(1, 5));
        refused(x, 4, "4 where one is", () -> x.cut(0, 5));
        badBy(x, 6, "cut 1 at 5", 0);
        badBy(x, 4, "cut 0 at 5", 0);
    }

    private static void cutAtATime() {
        FactLines x = of("source 1;source 2;fact 0 0 0 2 1;fact 0 1 998 1000 2;fact 0 1 0 1000 3;fact 1 0 0 1000 4");
        due("at 1", x.cut(0, 1), 2);
        due("from 0 to 1", x.told(0, 3), 1);
        due("new from 1", x.told(4, 2), 1);
        due("new to 2", x.told(4, 3), 2);
        due("the next by number", x.told(5, 3), 1000);
        due("at 999", x.cut(0, 999), 2);
        due("by numbers, the one that was first", x.told(6, 4), 2);
        due("a new one is cut too", x.told(7, 4), 3);
        due("its to", x.told(5, 3), 999);
        due("its from", x.told(7, 2), 999);
        due("of another thing none", x.told(3, 3), 1000);
        refused(x, 6, "at 999 again", () -> x.cut(0, 999));
        tell(x, "hush 1");
        due("of a silent source too", x.cut(0, 500), 1);
        due("its source", x.told(8, 1), 1);
        right(of("source 1;fact 0 0 0 1000 1"), "cut 0 at 1;cut 0 at 999", 2);
        badBy(of("source 1;fact 0 0 5 9 1"), 6, "cut 0 at 5", 0);
        badBy(of("source 1;fact 0 0 5 9 1"), 6, "cut 0 at 9", 0);
        right(of("source 1;fact 0 0 5 9 1"), "cut 0 at 6;cut 0 at 8", 2);
    }

    // ---- Terms 2: taken back, WHY ----

    private static void eightAreRemembered() {
        FactLines x = new FactLines();
        refused(x, 0, "none at first", x::undo);
        for (int i = 0; i < 7; i++) {
            x.source(i);
            due("remembered", x.count(7), i + 1);
        }
        x.rank(0, 50);
        due("the eighth", x.count(7), 8);
        x.rank(0, 51);
        due("the ninth in place of the first", x.count(7), 8);
        x.rank(0, 52);
        for (int i = 7; i >= 0; i--) {
            due("undo", x.undo(), i);
        }
        due("the first two stay", x.count(0), 2);
        due("rank as ahead of them", x.heard(0, 0), 0);
        fails(STATE, "none any more", x::undo);
        for (int i = 0; i < 20; i++) {
            x.rank(0, i);
        }
        due("undo behind many", x.undo(), 7);
        due("rank", x.heard(0, 0), 18);
        x.rank(1, 77);
        due("eight again", x.count(7), 8);
        for (int i = 7; i >= 0; i--) {
            x.undo();
        }
        due("rank", x.heard(0, 0), 11);
        fails(STATE, "none any more", x::undo);
    }

    private static void eachActIsTakenBack() {
        Asked[] acts = {x -> x.source(9), x -> x.fact(2, 1, 3, 9, 4), x -> x.drop(0), x -> x.hush(1, false),
            x -> x.hush(1, true), x -> x.rank(0, 99), x -> x.cut(0, 7), x -> x.off(1)};
        for (int n = 1; n <= acts.length; n++) {
            FactLines x = of("source 1;source 2;fact 0 0 0 10 1;fact 0 1 5 20 2;rule 1 is thing 0 + 1");
            String ahead = "";
            for (int i = 0; i < n; i++) {
                ahead = little(x);
                acts[i].answer(x);
            }
            due("act " + n + " does something", little(x).equals(ahead), false);
            due("undo", x.undo(), n - 1);
            due("as ahead of act " + n, little(x), ahead);
        }
    }

    private static void takenBackInPlaceOfOthers() {
        // What is told behind an undo stands in the places of what was taken back.
        FactLines x = of("source 1");
        x.fact(0, 0, 0, 10, 1);
        x.image();
        x.undo();
        x.source(60);
        x.fact(3, 1, 20, 40, 7);
        due("back", x.back(), true);
        int[] told = {0, 0, 0, 10, 1, 0};
        for (int what = 0; what < 6; what++) {
            due("what " + what, x.told(0, what), told[what]);
        }
        FactLines y = of("source 1;source 2");
        y.fact(4, 0, 0, 10, 1);
        y.drop(0);
        y.undo();
        y.undo();
        y.fact(5, 1, 30, 60, 8);
        y.fact(6, 0, 31, 61, 9);
        y.undo();
        y.undo();
        due("none", y.count(1), 0);
        y.fact(0, 0, 1, 2, 3);
        due("another one", y.at(0, 1), 3);
        due("facts of thing 5", y.thing(5, 0), 0);
    }

    private static void whatIsRemembered() {
        FactLines x = of("source 1");
        x.fact(0, 0, 0, 9, 1);
        x.rank(0, 5);
        due("two", x.count(7), 2);
        refused(x, 6, "refused", () -> x.off(0));
        fails(ARGUMENT, "none", () -> x.rank(0, 100));
        due("a call that throws is not remembered", x.count(7), 2);
        bad(x, "source 1;x", 9);
        due("a wrong text leaves them", x.count(7), 2);
        badBy(x, 5, "source 1;drop 5", 9);
        due("one wrong by a refusal too", x.count(7), 2);
        x.image();
        x.at(0, 0);
        due("the image leaves them", x.count(7), 2);
        due("undo behind wrong texts", x.undo(), 1);
        due("rank", x.heard(0, 0), 1);
        due("back takes them all", x.back(), true);
        due("none", x.count(7), 0);
        fails(STATE, "undo", x::undo);
        x.rank(0, 7);
        due("one", x.count(7), 1);
        right(x, "rank 0 9", 1);
        due("a right text takes them all", x.count(7), 0);
        fails(STATE, "undo", x::undo);
        x.rank(0, 8);
        right(x, "  ", 0);
        due("one without an act too", x.count(7), 0);
        x.rank(0, 3);
        due("undo behind it", x.undo(), 0);
        due("rank", x.heard(0, 0), 8);
    }

    private static void why() {
        FactLines x = new FactLines();
        due("0 at first", x.why(), 0);
        refused(x, 2, "refused", () -> x.rank(0, 0));
        x.source(1);
        due("done by a call", x.why(), 0);
        refused(x, 5, "refused", () -> x.drop(0));
        fails(ARGUMENT, "none", () -> x.source(100));
        due("an exception of another kind leaves it", x.why(), 5);
        fails(STATE, "back of an undo", () -> new FactLines().undo());
        due("undo", x.undo(), 0);
        due("undo leaves it", x.why(), 5);
        fails(STATE, "undo", x::undo);
        due("an undo of none leaves it", x.why(), 5);
        x.image();
        x.back();
        due("the image leaves it", x.why(), 5);
        right(x, "", 0);
        due("a text without an act leaves it", x.why(), 5);
        bad(x, "sauce", 0);
        due("a text that is wrong otherwise leaves it", x.why(), 5);
        badBy(x, 6, "source 1;rule 0 off", 9);
        right(x, "source 1", 1);
        due("a right text", x.why(), 0);
        bad(x, "sauce", 0);
        due("wrong otherwise, though one was refused ahead", x.why(), 0);
        badBy(x, 6, "hear 0", 0);
        x.rank(0, 5);
        bad(x, "rank 0 100", 7);
        due("wrong otherwise, behind a call", x.why(), 0);
        bad(x, "source 1;rank 0 100", 16);
        due("acts of a wrong text leave it", x.why(), 0);
        refused(x, 6, "off", () -> x.off(0));
        bad(x, "source 1;rank 0 100", 16);
        due("acts of a wrong text leave it", x.why(), 6);
        due("fact", x.fact(0, 0, 0, 1, 0), 0);
        due("drop", x.drop(0), 1);
        due("why", x.why(), 0);
    }

    private static FactLines richAndWrong(String end) {
        FactLines x = rich();
        put(x, "source 1;fact 6 0 7 8 9;hush 1;rank 0 77;rule 3 is 5;rule 0 is 8;rule 3 off;cut 1 at 5;" + end);
        fails(ARGUMENT, "a text that ends with " + end, x::acts);
        return x;
    }

    private static void ofAWrongTextNothingStays() {
        String[] wrong = {"x", ";", "source 100", "drop 59", "source 1 1"};
        for (String end : wrong) {
            due("behind " + end, seen(richAndWrong(end)), seen(rich()));
            due("the past behind " + end, past(richAndWrong(end)), past(rich()));
            FactLines x = richAndWrong(end);
            FactLines y = rich();
            x.back();
            y.back();
            due("the image behind " + end, seen(x), seen(y));
            due("the tape behind " + end, x.end(1), false);
        }
    }

    // ---- what a call that throws, or by which nothing happens, leaves ----

    /** Sources, facts, rules, an image of what was, eight acts remembered, WHY 5, fault 7, a tape of 23. */
    private static FactLines rich() {
        FactLines x = of("source 50;source 60;source 50;fact 0 0 10 30 1;fact 0 1 20 40 2;fact 1 0 0 1000 99;"
                + "fact 2 2 5 6 7;hush 2;rule 3 is thing 0 + 5;rule 4 is thing 3 unless thing 1");
        x.image();
        x.drop(3);
        x.cut(0, 25);
        x.rank(1, 40);
        x.hush(0, false);
        x.hush(0, true);
        x.fact(7, 1, 999, 1000, 0);
        x.off(4);
        x.source(99);
        outcome(() -> x.drop(3));
        put(x, "source 100");
        outcome(x::acts);
        put(x, "rule 5 is 1;rule 6 is 2");
        return x;
    }

    /** What can be seen without changing anything, but for the tape, fault() and WHY. */
    private static String seen(FactLines x) {
        StringBuilder sb = new StringBuilder(little(x));
        for (int fact = 0; fact < x.count(1); fact++) {
            for (int what : new int[] {0, 1, 2, 4, 6, 7}) {
                sb.append(' ').append(x.told(fact, what));
            }
        }
        for (int thing = 0; thing < 8; thing++) {
            for (int time : new int[] {0, 10, 24, 25, 999}) {
                sb.append(' ').append(x.at(thing, time)).append('/').append(x.by(thing, time, 0));
            }
            sb.append(' ').append(x.thing(thing, 5)).append(' ').append(x.thing(thing, 2));
        }
        for (int k = 0; k < 5; k++) {
            sb.append(' ').append(x.order(k)).append(' ').append(x.idle(k));
        }
        return sb.append(' ').append(x.count(7)).toString();
    }

    private static String little(FactLines x) {
        StringBuilder sb = new StringBuilder();
        for (int what = 0; what < 7; what++) {
            sb.append(' ').append(x.count(what));
        }
        for (int fact = 0; fact < x.count(1); fact++) {
            sb.append(' ').append(x.told(fact, 3)).append(' ').append(x.told(fact, 5));
        }
        for (int source = 0; source < x.count(0); source++) {
            sb.append(' ').append(x.heard(source, 0)).append(' ').append(x.heard(source, 1));
        }
        for (int thing = 0; thing < 8; thing++) {
            sb.append(' ').append(x.thing(thing, 3)).append(' ').append(x.thing(thing, 4));
        }
        return sb.toString();
    }

    private static String past(FactLines x) {
        StringBuilder sb = new StringBuilder();
        for (int n = x.count(7); n > 0; n--) {
            sb.append(x.undo());
            for (int thing = 0; thing < 8; thing++) {
                sb.append(' ').append(x.thing(thing, 3));
            }
            for (int what = 0; what < 7; what++) {
                sb.append(' ').append(x.count(what));
            }
            sb.append(' ').append(x.heard(0, 0)).append(' ').append(x.heard(1, 0)).append('\n');
        }
        return sb.append(little(x)).append(outcome(x::undo)).toString();
    }

    private static String imageAndTape(FactLines x) {
        return x.end(24) + " " + x.end(23) + " " + x.back() + seen(x) + " " + outcome(x::acts) + little(x);
    }

    private static FactLines richAnd(Asked made) {
        FactLines x = rich();
        made.answer(x);
        return x;
    }

    /** After a call all is as in a twin without it, but for WHY. */
    private static void leaves(String call, int why, Asked made) {
        FactLines x = richAnd(made);
        due(call + ", WHY", x.why(), why);
        due(call + ", fault()", x.fault(), 7);
        due(call + ", what is seen", seen(x), seen(rich()));
        due(call + ", what is remembered", past(richAnd(made)), past(rich()));
        due(call + ", the image and the tape", imageAndTape(richAnd(made)), imageAndTape(rich()));
    }

    private static void throwing(String exception, String call, int why, Asked made) {
        leaves(call, why, x -> {
            fails(exception, call, () -> made.answer(x));
            return 0;
        });
    }

    private static void aCallThatThrowsLeavesAll() {
        throwing(ARGUMENT, "source(100)", 5, x -> x.source(100));
        throwing(BOUNDS, "fact(8..)", 5, x -> x.fact(8, 0, 0, 1, 0));
        throwing(ARGUMENT, "fact(.. 1001 ..)", 5, x -> x.fact(0, 0, 0, 1001, 0));
        throwing(ARGUMENT, "fact(.. 100)", 5, x -> x.fact(0, 0, 0, 1, 100));
        throwing(STATE, "fact of source 4", 2, x -> x.fact(0, 4, 0, 1, 0));
        throwing(STATE, "fact from 5 to 5", 3, x -> x.fact(0, 0, 5, 5, 0));
        throwing(STATE, "drop(3)", 5, x -> x.drop(3));
        throwing(STATE, "drop(7)", 5, x -> x.drop(7));
        throwing(STATE, "hush(4)", 2, x -> x.hush(4, false));
        throwing(STATE, "hush(2)", 6, x -> x.hush(2, false));
        throwing(STATE, "hear(0)", 6, x -> x.hush(0, true));
        throwing(ARGUMENT, "rank(0, 100)", 5, x -> x.rank(0, 100));
        throwing(STATE, "rank(4, 1)", 2, x -> x.rank(4, 1));
        throwing(BOUNDS, "cut(8, 1)", 5, x -> x.cut(8, 1));
        throwing(ARGUMENT, "cut(0, 0)", 5, x -> x.cut(0, 0));
        throwing(STATE, "cut(0, 25)", 6, x -> x.cut(0, 25));
        throwing(BOUNDS, "off(8)", 5, x -> x.off(8));
        throwing(STATE, "off(4)", 6, x -> x.off(4));
        throwing(BOUNDS, "at(0, 1000)", 5, x -> x.at(0, 1000));
        throwing(ELEMENT, "by(0, 0, 3)", 5, x -> x.by(0, 0, 3));
        throwing(BOUNDS, "beneath(8, 0, 0)", 5, x -> x.beneath(8, 0, 0));
        throwing(ELEMENT, "span(0, 0, 3)", 5, x -> x.span(0, 0, 3));
        throwing(ELEMENT, "gap(0, 0, 2)", 5, x -> x.gap(0, 0, 2));
        throwing(BOUNDS, "lack(0, -1, 0)", 5, x -> x.lack(0, -1, 0));
        throwing(ARGUMENT, "first(0, 0, 100)", 5, x -> x.first(0, 0, 100));
        throwing(ELEMENT, "told(0, 8)", 5, x -> x.told(0, 8));
        throwing(ARGUMENT, "how(1, 1)", 5, x -> x.how(1, 1));
        throwing(ELEMENT, "heard(0, 4)", 5, x -> x.heard(0, 4));
        throwing(ARGUMENT, "accord(1, 1)", 5, x -> x.accord(1, 1));
        throwing(ELEMENT, "thing(0, 7)", 5, x -> x.thing(0, 7));
        throwing(ARGUMENT, "often(0, 100)", 5, x -> x.often(0, 100));
        throwing(ARGUMENT, "pairs(0, 1, 13)", 5, x -> x.pairs(0, 1, 13));
        throwing(ARGUMENT, "early(0, 0, 8)", 5, x -> x.early(0, 0, 8));
    }

    private static void aRefusalOfAFullOneLeavesAll() {
        FactLines x = full();
        FactLines y = full();
        refused(x, 1, "source", () -> x.source(1));
        refused(x, 4, "fact", () -> x.fact(0, 0, 0, 1, 1));
        refused(x, 4, "cut", () -> x.cut(0, 5));
        due("what there is", little(x), little(y));
        due("remembered", x.count(7), 8);
        due("undo", x.undo(), 7);
        due("the last one alone", x.count(1), 59);
        fails(STATE, "undo of none", () -> new FactLines().undo());
    }

    private static void whereNothingHappens() {
        leaves("feed beyond 400", 5, x -> {
            for (int i = 0; i < 18; i++) {
                due("feed", x.feed(-1, -1, -1, -1, -1), 43 + 20 * i);
            }
            due("feed beyond", x.feed(-1, -1, -1, -1, -1), NONE);
            due("nothing comes", x.end(384), false);
            return x.end(23);
        });
        leaves("end(24)", 5, x -> {
            due("end(24)", x.end(24), false);
            due("end(-1)", x.end(-1), false);
            due("end(MIN)", x.end(Integer.MIN_VALUE), false);
            due("end(MAX)", x.end(Integer.MAX_VALUE), false);
            due("end(23)", x.end(23), true);
            return 0;
        });
        leaves("count(8)", 5, x -> x.count(8));
        leaves("fault and why", 5, x -> x.fault() + x.why());
    }

    private static void askingChangesNothing() {
        leaves("all that is asked of facts", 5, x -> {
            for (int fact = 0; fact < 7; fact++) {
                for (int what = 0; what < 8; what++) {
                    x.told(fact, what);
                }
                x.how(fact, (fact + 1) % 7);
                x.shared(fact, (fact + 1) % 7);
                x.better(fact, (fact + 1) % 7);
                x.early(0, 22, fact);
                x.idle(fact);
            }
            return 0;
        });
        leaves("all that is asked of things", 5, x -> {
            for (int thing = 0; thing < 8; thing++) {
                x.lack(thing, 24, 0);
                x.beneath(thing, 24, 0);
                x.span(thing, 0, 0);
                x.gap(thing, 0, 0);
                x.change(thing, 24, true);
                x.run(thing, 24);
                x.first(thing, 0, 1);
                x.together(thing, 0);
                x.nearest(thing, 500);
                x.rest(thing, 5);
                x.longest(thing, true);
                x.pairs(thing, 0, 6);
                x.often(thing, 5);
            }
            return x.accord(0, 1) + x.heard(0, 3) + x.order(0);
        });
    }

    // ---- Terms 3 ----

    private static void spansAndGaps() {
        FactLines x = of("source 1;source 2;fact 0 0 0 10 5;fact 0 1 10 20 5;fact 0 1 20 21 6;fact 0 0 21 30 5;fact 0 0 999 1000 5");
        int[][] spans = {{0, 20, 5}, {20, 21, 6}, {21, 30, 5}, {999, 1000, 5}};
        int[][] gaps = {{30, 999}};
        due("spans", x.span(0, NONE, 2), 4);
        due("gaps", x.gap(0, NONE, 1), 1);
        for (int k = 0; k < 4; k++) {
            for (int what = 0; what < 3; what++) {
                due("span " + k + " what " + what, x.span(0, k, what), spans[k][what]);
            }
        }
        due("gap from", x.gap(0, 0, 0), gaps[0][0]);
        due("gap to", x.gap(0, 0, 1), gaps[0][1]);
        due("span 4", x.span(0, 4, 0), NONE);
        due("gap 1", x.gap(0, 1, 0), NONE);
        due("span -2", x.span(0, -2, 0), NONE);
        due("span MIN", x.span(0, Integer.MIN_VALUE, 2), NONE);
        due("span MAX", x.span(0, Integer.MAX_VALUE, 1), NONE);
        due("gap -2", x.gap(0, -2, 0), NONE);
        due("gap MAX", x.gap(0, Integer.MAX_VALUE, 0), NONE);
        tell(x, "rule 0 is 5");
        due("a rule joins them", x.span(0, NONE, 0), 3);
        due("no gap", x.gap(0, NONE, 0), 0);
        due("to the end", x.span(0, 2, 1), 1000);
        due("no gap 0", x.gap(0, 0, 0), NONE);
        FactLines y = new FactLines();
        due("an empty one has no span", y.span(0, NONE, 0), 0);
        due("span 0", y.span(0, 0, 0), NONE);
        due("and one gap", y.gap(0, NONE, 0), 1);
        due("from", y.gap(0, 0, 0), 0);
        due("to", y.gap(0, 0, 1), 1000);
        tell(y, "rule 0 is 0");
        due("a span of nought is one", y.span(0, 0, 1), 1000);
        sides("span", TermTests::some, 0, 2, ELEMENT, (z, n) -> z.span(0, 0, n));
        sides("span count", TermTests::some, 0, 2, ELEMENT, (z, n) -> z.span(0, NONE, n));
        sides("gap", TermTests::some, 0, 1, ELEMENT, (z, n) -> z.gap(0, 0, n));
        sides("gap count", TermTests::some, 0, 1, ELEMENT, (z, n) -> z.gap(0, NONE, n));
    }

    private static void lack(String rules, int thing, int end, int... row) {
        FactLines x = of("source 1;fact 1 0 0 1000 60;" + rules);
        due(rules + ": how many", x.lack(thing, 999, NONE), row.length);
        due(rules + ": how it ends", x.lack(thing, 999, -2), end);
        for (int k = 0; k < row.length; k++) {
            due(rules + ": " + k, x.lack(thing, 999, k), row[k]);
        }
        due(rules + ": behind", x.lack(thing, 999, row.length), NONE);
        for (int k : new int[] {-3, Integer.MIN_VALUE, Integer.MAX_VALUE}) {
            due(rules + ": " + k, x.lack(thing, 999, k), NONE);
        }
    }

    private static void lackGoesOn() {
        lack("rule 7 is 1", 6, 0, 6);
        lack("rule 7 is thing 0", 7, 0, 7, 0);
        lack("rule 3 is thing 2;rule 7 is thing 3", 7, 0, 7, 3, 2);
        for (String sign : new String[] {"+", "-", "min", "max"}) {
            lack("rule 7 is thing 0 " + sign + " thing 2", 7, 0, 7, 0);
            lack("rule 7 is 5 " + sign + " thing 2", 7, 0, 7, 2);
            lack("rule 7 is thing 0 " + sign + " 5", 7, 0, 7, 0);
            lack("rule 7 is 5 " + sign + " thing 2 " + sign + " thing 3", 7, 0, 7, 2);
        }
        lack("rule 7 is thing 1 + 39 + 1", 7, 1, 7);
        lack("rule 7 is thing 1 + 40 + thing 0", 7, 1, 7);
        lack("rule 7 is thing 1 + 39 + thing 0", 7, 0, 7, 0);
        lack("rule 7 is 59 - thing 1", 7, 1, 7);
        lack("rule 7 is 59 - thing 1 else thing 0", 7, 1, 7);
        lack("rule 7 is thing 0 + (59 - thing 1)", 7, 0, 7, 0);
        lack("rule 7 is 1 + (59 - thing 1)", 7, 1, 7);
        lack("rule 7 is thing 0 else thing 2", 7, 0, 7, 2);
        lack("rule 7 is thing 0 else (59 - thing 1)", 7, 1, 7);
        lack("rule 7 is (59 - thing 1) else thing 0", 7, 0, 7, 0);
        lack("rule 7 is thing 0 while thing 2", 7, 0, 7, 2);
        lack("rule 7 is thing 0 while thing 1", 7, 0, 7, 0);
        lack("rule 7 is thing 1 while thing 2", 7, 0, 7, 2);
        lack("rule 7 is thing 1 unless thing 1", 7, 2, 7);
        lack("rule 7 is thing 0 unless thing 1", 7, 2, 7);
        lack("rule 7 is thing 0 unless thing 2", 7, 0, 7, 0);
        lack("rule 3 is 5 unless thing 1;rule 7 is thing 3", 7, 2, 7, 3);
        lack("rule 3 is thing 1 + 99;rule 7 is 1 + thing 3", 7, 1, 7, 3);
        lack("rule 3 is thing 2 unless thing 0;rule 7 is thing 3", 7, 0, 7, 3, 2);
        lack("rule 2 is thing 0;rule 3 is thing 2;rule 4 is thing 3;rule 5 is thing 4;rule 6 is thing 5;rule 7 is thing 6",
                7, 0, 7, 6, 5, 4, 3, 2, 0);
        FactLines x = of("source 1;fact 1 0 5 1000 60;rule 7 is thing 1");
        for (int k = -3; k < 3; k++) {
            due("something, k " + k, x.lack(7, 5, k), NONE);
            due("something by a fact, k " + k, x.lack(1, 5, k), NONE);
        }
        due("nothing just ahead", x.lack(7, 4, 1), 1);
    }

    private static void beneath() {
        FactLines x = of("source 5;source 5;fact 0 1 0 10 1;fact 0 0 0 10 2;fact 0 0 0 9 3;fact 0 0 1 10 4");
        int[] best = {3, 2, 1, 0};
        for (int k = 0; k < 4; k++) {
            due("k " + k, x.beneath(0, 5, k), best[k]);
        }
        due("how many", x.beneath(0, 5, NONE), 4);
        for (int k : new int[] {4, -2, Integer.MIN_VALUE, Integer.MAX_VALUE}) {
            due("k " + k, x.beneath(0, 5, k), NONE);
        }
        due("at the first time", x.beneath(0, 0, NONE), 3);
        due("at the last time", x.beneath(0, 9, NONE), 3);
        due("without any", x.beneath(0, 10, NONE), 0);
        due("without any, 0", x.beneath(0, 10, 0), NONE);
        FactLines y = factsOf(60);
        due("sixty", y.beneath(0, 999, NONE), 60);
        due("the last one", y.beneath(0, 999, 59), 59);
        due("no sixty-first", y.beneath(0, 999, 60), NONE);
    }

    private static void reignIdleAndTouch() {
        FactLines x = of("source 5;source 6;fact 0 0 0 10 1;fact 0 1 0 9 1;fact 0 0 0 9 2;fact 1 0 0 1 3;fact 2 0 999 1000 4");
        due("what is left at the end", x.told(0, 6), 1);
        due("from the first time on", x.told(1, 6), 9);
        due("none", x.told(2, 6), 0);
        due("the first time alone", x.told(3, 6), 1);
        due("the last time alone", x.told(4, 6), 1);
        due("idle", x.idle(0), 2);
        due("no second", x.idle(1), NONE);
        for (int k : new int[] {-1, -2, Integer.MIN_VALUE, Integer.MAX_VALUE}) {
            due("idle " + k, x.idle(k), NONE);
        }
        due("one is idle", x.count(5), 1);
        due("touch by another value beneath", x.told(1, 7), 9);
        due("touch of what is beneath", x.told(2, 7), 0);
        due("touch of the last time", x.told(4, 7), 1);
        tell(x, "rule 2 is 4");
        due("no touch, where the rule makes the same", x.told(4, 7), 0);
        tell(x, "rule 3 is thing 1;rule 4 is thing 3 else thing 2;rule 5 is 1 while thing 1");
        due("touch of things by rule", x.told(3, 7), 4);
        due("drop what reigned", x.drop(3), 1);
        due("withdrawn: no touch", x.told(3, 7), NONE);
        due("withdrawn: no reign", x.told(3, 6), 0);
        due("withdrawn: not idle", x.count(5), 1);
        due("a fact of all times", of("source 1;fact 0 0 0 1000 0").told(0, 6), 1000);
        FactLines y = of("source 1;fact 0 0 0 1000 0;rule 1 is thing 0;rule 2 is thing 0;rule 3 is thing 0;rule 4 is thing 0;"
                + "rule 5 is thing 0;rule 6 is thing 0;rule 7 is thing 0");
        due("touch of all things at all times", y.told(0, 7), 8000);
        sides("told", TermTests::some, 0, 7, ELEMENT, (z, n) -> z.told(0, n));
    }

    private static void disputes() {
        FactLines x = of("source 5;source 6;fact 0 0 0 10 1;fact 0 1 0 5 1;fact 0 0 0 3 2;fact 0 1 9 12 3");
        due("first times and the last that both hold", x.thing(0, 2), 4);
        tell(x, "fact 1 0 0 9 1;fact 1 0 0 9 2");
        due("not of one source", x.thing(1, 2), 0);
        tell(x, "fact 1 1 8 20 2");
        due("unlike one of two", x.thing(1, 2), 1);
        tell(x, "fact 2 0 999 1000 1;fact 2 1 0 1000 2");
        due("the last time", x.thing(2, 2), 1);
        tell(x, "fact 3 0 0 1000 1;fact 3 1 0 1000 2");
        due("all times", x.thing(3, 2), 1000);
        tell(x, "hush 1");
        due("not with a silent one", x.thing(3, 2), 0);
        tell(x, "hear 1;drop 9");
        due("not with a withdrawn one", x.thing(3, 2), 0);
        due("without facts", x.thing(7, 2), 0);
    }

    private static void voiceAndAccord() {
        FactLines x = of("source 5;source 6;source 7;fact 0 0 0 1000 1;fact 1 0 0 1000 1;fact 7 0 0 1000 1");
        due("three things", x.heard(0, 3), 3000);
        due("none", x.heard(1, 3), 0);
        due("accord without any", x.accord(0, 1), 100);
        tell(x, "fact 0 1 999 1000 2");
        due("voice of one time", x.heard(1, 3), 1);
        due("voice of the other one", x.heard(0, 3), 2999);
        due("none of one", x.accord(0, 1), 0);
        tell(x, "fact 7 1 0 1 1");
        due("one of two", x.accord(0, 1), 50);
        tell(x, "fact 1 1 5 6 3");
        due("one of three, rounded down", x.accord(1, 0), 33);
        tell(x, "fact 1 1 6 7 1");
        due("two of four", x.accord(1, 0), 50);
        tell(x, "fact 1 1 7 9 1");
        due("four of six, rounded down", x.accord(0, 1), 66);
        tell(x, "fact 1 1 100 294 1");
        due("198 of 200", x.accord(0, 1), 99);
        tell(x, "fact 1 1 294 295 1;fact 1 2 0 1000 9");
        due("199 of 201, beneath a third one", x.accord(0, 1), 99);
        tell(x, "drop 3;drop 5");
        due("all", x.accord(0, 1), 100);
        // The best one of each counts, be it best of all or not.
        FactLines y = of("source 5;source 6;fact 0 0 0 10 1;fact 0 0 0 9 2;fact 0 1 0 10 2;fact 0 1 0 5 1");
        due("by the shorter ones", y.accord(0, 1), 40);
        sides("heard", TermTests::some, 0, 3, ELEMENT, (z, n) -> z.heard(0, n));
        FactLines z = of("source 5;source 6");
        for (int thing = 0; thing < 8; thing++) {
            z.fact(thing, 0, 0, 1000, 1);
            z.fact(thing, 1, 0, 1000, thing < 7 ? 1 : 2);
        }
        due("7000 of 8000", z.accord(0, 1), 87);
        due("all voice", z.heard(1, 3), 8000);
    }

    private static void sumsAndModes() {
        FactLines x = of("source 5;fact 0 0 0 1 7;fact 1 0 999 1000 3;fact 2 0 0 5 9;fact 2 0 10 15 8;fact 2 0 20 24 1;rule 3 is 99;rule 4 is 0");
        due("sum of the first time", x.thing(0, 3), 7);
        due("mode of one time", x.thing(0, 6), 7);
        due("sum of the last time", x.thing(1, 3), 3);
        due("mode of one time", x.thing(1, 6), 3);
        due("of several the least", x.thing(2, 6), 8);
        tell(x, "fact 2 0 500 501 9");
        due("the one of the most", x.thing(2, 6), 9);
        tell(x, "fact 2 0 600 602 1");
        due("of several the least", x.thing(2, 6), 1);
        due("sum", x.thing(2, 3), 9 * 6 + 8 * 5 + 6);
        due("the greatest sum", x.thing(3, 3), 99000);
        due("mode 99", x.thing(3, 6), 99);
        due("sum of noughts", x.thing(4, 3), 0);
        due("mode 0", x.thing(4, 6), 0);
        due("often 0", x.often(4, 0), 1000);
        due("times", x.thing(4, 1), 1000);
        due("sum of nothing", x.thing(5, 3), 0);
        due("mode of nothing", x.thing(5, 6), NONE);
        due("often of the first time", x.often(0, 7), 1);
        due("often of the last time", x.often(1, 3), 1);
        due("often of nothing", x.often(5, 0), 0);
        due("together at the first time", x.together(0, 2), 1);
        due("together at the last time", x.together(1, 3), 1);
        due("together never", x.together(0, 1), 0);
        due("together with itself", x.together(0, 0), 1);
        due("together always", x.together(3, 4), 1000);
        sides("thing", TermTests::some, 0, 6, ELEMENT, (z, n) -> z.thing(0, n));
    }

    private static void longest() {
        FactLines x = of("source 5;fact 0 0 0 1 7;fact 0 0 999 1000 7;fact 1 0 1 999 4;fact 2 0 0 3 1;fact 2 0 3 6 2;fact 2 0 9 12 3");
        due("of two of one time the first", x.longest(0, false), 0);
        due("the gap between", x.longest(0, true), 0);
        due("one span", x.longest(1, false), 0);
        due("of two gaps of one time the first", x.longest(1, true), 0);
        due("of three the first", x.longest(2, false), 0);
        due("the last gap", x.longest(2, true), 1);
        tell(x, "fact 2 0 12 16 3");
        due("the third", x.longest(2, false), 2);
        due("no span", x.longest(7, false), NONE);
        due("a gap of all", x.longest(7, true), 0);
        tell(x, "rule 7 is 0");
        due("a span of all", x.longest(7, false), 0);
        due("no gap", x.longest(7, true), NONE);
    }

    private static void howOneLiesToAnother() {
        int[][] lying = {{1, 9}, {1, 10}, {5, 15}, {5, 20}, {5, 21}, {10, 19}, {10, 20}, {10, 21}, {11, 19}, {11, 20}, {11, 21},
            {20, 25}, {21, 25}};
        for (int how = 0; how < 13; how++) {
            FactLines x = of("source 5;fact 0 0 10 20 1;fact 1 0 " + lying[how][0] + " " + lying[how][1] + " 1");
            due("how " + how, x.how(1, 0), how);
            due("turned " + how, x.how(0, 1), 12 - how);
            for (int asked = 0; asked < 13; asked++) {
                due("pairs " + how + " by " + asked, x.pairs(1, 0, asked), asked == how ? 1 : 0);
            }
        }
        FactLines y = of("source 5;fact 0 0 0 1 1;fact 1 0 999 1000 1;fact 2 0 0 1000 1");
        due("the first time and the last one", y.how(0, 1), 0);
        due("turned", y.how(1, 0), 12);
        due("the first time and all", y.how(0, 2), 5);
        due("the last time and all", y.how(1, 2), 9);
        due("all and the last time", y.how(2, 1), 3);
        due("pairs from the first time on", y.pairs(0, 2, 5), 1);
        due("pairs turned", y.pairs(2, 0, 7), 1);
        due("pairs to the last time", y.pairs(2, 1, 3), 1);
        due("pairs with itself", y.pairs(2, 2, 6), 1);
        due("pairs with nothing", y.pairs(2, 7, 6), 0);
        due("pairs of nothing", y.pairs(7, 2, 6), 0);
        due("pairs of nothing with nothing", y.pairs(7, 7, 6), 0);
        sides("pairs", TermTests::some, 0, 12, ARGUMENT, (z, n) -> z.pairs(0, 0, n));
        fails(ARGUMENT, "how of one", () -> y.how(2, 2));
        fails(ARGUMENT, "accord of one", () -> some().accord(1, 1));
    }

    private static void sharedTimes() {
        FactLines x = of("source 5;fact 0 0 0 1000 1;fact 1 0 0 1 1;fact 2 0 999 1000 1;fact 3 0 1 999 1;fact 3 0 0 1 1;drop 1");
        due("all with itself", x.shared(0, 0), 1000);
        due("the first time", x.shared(0, 1), 1);
        due("the last time", x.shared(2, 0), 1);
        due("one with itself", x.shared(2, 2), 1);
        due("far", x.shared(1, 2), 0);
        due("just behind", x.shared(1, 3), 0);
        due("just ahead", x.shared(3, 2), 0);
        due("within", x.shared(3, 0), 998);
        due("alike", x.shared(1, 4), 1);
    }

    private static void earlyByN() {
        FactLines x = of("source 5;source 6;fact 0 1 0 1000 1;fact 0 0 0 1000 2;fact 0 1 999 1000 3");
        int[] early = {NONE, 1, 1, 3};
        for (int n = 0; n < 4; n++) {
            due("n " + n, x.early(0, 999, n), early[n]);
        }
        sides("early", TermTests::some, 0, 2, ARGUMENT, (z, n) -> z.early(0, 0, n));
        sides("early without facts", FactLines::new, 0, 0, ARGUMENT, (z, n) -> z.early(0, 0, n));
        tell(x, "drop 0;cut 0 at 500;hush 0;rank 0 9;hear 0");
        due("withdrawn as they are", x.early(0, 0, 1), NONE);
        due("with the TO that they have", x.early(0, 500, 2), NONE);
        due("the new one", x.early(0, 500, 4), 2);
        due("ranked as they are", x.early(0, 999, 3), 3);
        due("ranked as they are", x.early(0, 999, 4), 2);
        tell(x, "hush 0");
        due("silent as they are", x.early(0, 999, 4), 3);
        due("nothing of it stays", x.at(0, 500), NONE);
    }

    private static void orderOfSources() {
        due("none", new FactLines().order(0), NONE);
        FactLines x = of("source 0;source 99;source 0;source 98;source 99;source 1;source 0;source 50;hush 1");
        int[] order = {1, 4, 3, 7, 5, 0, 2, 6, NONE};
        for (int k = 0; k < 9; k++) {
            due("order " + k, x.order(k), order[k]);
        }
        for (int k : new int[] {-1, Integer.MIN_VALUE, Integer.MAX_VALUE}) {
            due("order " + k, x.order(k), NONE);
        }
    }

    private static void nearestRestAndRun() {
        FactLines x = of("source 5;fact 0 0 0 1 5;fact 0 0 10 11 5;fact 0 0 999 1000 5;fact 1 0 0 1 0;fact 2 0 999 1000 0;rule 4 is 0");
        int[] times = {0, 1, 5, 6, 10, 11, 504, 505, 998, 999};
        int[] nearest = {0, 0, 0, 10, 10, 10, 10, 999, 999, 999};
        int[] rest = {10, 9, 5, 4, 989, 988, 495, 494, 1, NONE};
        int[] run = {1, 9, 9, 9, 1, 988, 988, 988, 988, 1};
        for (int i = 0; i < times.length; i++) {
            due("nearest " + times[i], x.nearest(0, times[i]), nearest[i]);
            due("rest " + times[i], x.rest(0, times[i]), rest[i]);
            due("run " + times[i], x.run(0, times[i]), run[i]);
        }
        due("only the first time", x.nearest(1, 999), 0);
        due("only the first time", x.nearest(1, 1), 0);
        due("only the last time", x.nearest(2, 0), 999);
        due("nothing", x.nearest(3, 500), NONE);
        due("all", x.nearest(4, 500), 500);
        due("rest of all", x.rest(4, 0), NONE);
        due("rest of nothing", x.rest(3, 0), NONE);
        due("rest to the last time", x.rest(2, 0), 999);
        due("rest behind the first time", x.rest(1, 0), NONE);
        due("run of nothing", x.run(3, 0), 1000);
        due("run of all", x.run(4, 999), 1000);
        tell(x, "fact 5 0 0 5 1;fact 5 0 5 9 2");
        due("rest to another value", x.rest(5, 0), 5);
        due("run to another value", x.run(5, 4), 5);
    }

    private static void changesAndFirst() {
        FactLines x = of("source 5;fact 0 0 1 2 5;fact 0 0 2 3 6;fact 0 0 998 1000 5;rule 1 is 7");
        int[] times = {0, 1, 2, 3, 997, 998, 999};
        int[] ahead = {1, 2, 3, 998, 998, NONE, NONE};
        int[] back = {0, 1, 2, 3, 3, 998, 998};
        int[] first = {1, 1, 998, 998, 998, 998, 999};
        for (int i = 0; i < times.length; i++) {
            due("ahead of " + times[i], x.change(0, times[i], false), ahead[i]);
            due("back of " + times[i], x.change(0, times[i], true), back[i]);
            due("first from " + times[i], x.first(0, times[i], 5), first[i]);
        }
        due("never another", x.change(1, 0, false), NONE);
        due("ever the same", x.change(1, 999, true), 0);
        due("at the first time", x.first(1, 0, 7), 0);
        due("at the last time", x.first(1, 999, 7), 999);
        due("none", x.first(1, 0, 8), NONE);
        due("none any more", x.first(0, 3, 6), NONE);
        due("nothing is no value", x.first(3, 0, 0), NONE);
        sides("by", TermTests::some, 0, 2, ELEMENT, (z, n) -> z.by(0, 0, n));
    }

    private static void theImage() {
        FactLines x = of("source 5");
        due("none kept", x.back(), false);
        due("none kept by that", x.back(), false);
        x.image();
        tell(x, "fact 0 0 0 9 1");
        x.image();
        x.drop(0);
        due("the latest one alone", x.back(), true);
        due("one fact", x.count(1), 1);
        due("not withdrawn", x.told(0, 5), 0);
        x.drop(0);
        x.rank(0, 9);
        due("once more", x.back(), true);
        due("rank", x.heard(0, 0), 5);
        FactLines y = new FactLines();
        y.image();
        tell(y, "source 5;fact 0 0 0 9 1;rule 1 is 3;hush 0");
        due("back to an empty one", y.back(), true);
        for (int what = 0; what < 8; what++) {
            due("count " + what, y.count(what), 0);
        }
        FactLines z = full();
        z.image();
        z.drop(59);
        z.hush(7, false);
        tell(z, "drop 0;rule 7 is " + TWELVE);
        due("back to a full one", z.back(), true);
        due("facts", z.count(1), 60);
        due("withdrawn", z.count(2), 0);
        due("silent", z.count(3), 0);
        due("rules", z.count(4), 0);
        due("the last fact", z.told(59, 6), 8);
    }

    private static void theImageLeavesTheTapeFaultAndWhy() {
        FactLines x = of("source 5");
        x.image();
        bad(x, "source", 6);
        refused(x, 6, "off", () -> x.off(0));
        put(x, "source 7");
        due("back", x.back(), true);
        due("fault", x.fault(), 6);
        due("why", x.why(), 6);
        due("tape", x.end(9), false);
        due("tape", x.end(8), true);
        due("acts", outcome(x::acts), "1");
        due("rank", x.heard(1, 0), 7);
        due("the image itself", x.back(), true);
        due("sources", x.count(0), 1);
    }

    private static void drawnAnewManyTimes() {
        // Ends of facts that are gone cut no line any more, however many there were.
        FactLines x = of("source 5");
        x.image();
        for (int i = 0; i < 80; i++) {
            x.fact(0, 0, 12 * i + 1, 12 * i + 7, 5);
            due("span " + i, x.span(0, 0, 0), 12 * i + 1);
            due("at " + i, x.at(0, 12 * i + 7), NONE);
            x.back();
        }
        x.fact(0, 0, 998, 999, 4);
        due("at the end", x.at(0, 998), 4);
        due("behind it", x.at(0, 999), NONE);
        due("from", x.span(0, 0, 0), 998);
        due("to", x.span(0, 0, 1), 999);
    }

    private static void theExceptionToldFirst() {
        FactLines x = factsOf(60);
        for (int i = 1; i < 8; i++) {
            x.source(50);
        }
        fails(ARGUMENT, "source", () -> x.source(100));
        fails(BOUNDS, "fact", () -> x.fact(8, 9, 1001, 0, 100));
        fails(ARGUMENT, "fact from", () -> x.fact(0, 9, 1001, 1001, 0));
        fails(ARGUMENT, "fact to", () -> x.fact(0, 9, 5, -1, 0));
        fails(ARGUMENT, "fact value", () -> x.fact(0, 9, 5, 5, 100));
        fails(ARGUMENT, "rank", () -> x.rank(9, 100));
        fails(BOUNDS, "cut", () -> x.cut(8, 0));
        fails(ARGUMENT, "cut of none", () -> x.cut(1, 0));
        fails(ARGUMENT, "cut beyond 60", () -> x.cut(0, 1000));
        fails(BOUNDS, "off", () -> x.off(8));
        due("why", x.why(), 0);
        fails(BOUNDS, "by thing", () -> x.by(8, 0, 3));
        fails(BOUNDS, "by time", () -> x.by(0, 1000, 3));
        fails(BOUNDS, "span", () -> x.span(8, 0, 3));
        fails(BOUNDS, "gap", () -> x.gap(8, 0, 2));
        fails(BOUNDS, "first thing", () -> x.first(8, 0, 100));
        fails(BOUNDS, "first time", () -> x.first(0, 1000, 100));
        fails(BOUNDS, "told", () -> x.told(60, 8));
        fails(BOUNDS, "how", () -> x.how(60, 60));
        fails(BOUNDS, "how -1", () -> x.how(-1, -1));
        fails(BOUNDS, "heard", () -> x.heard(8, 4));
        fails(BOUNDS, "accord", () -> x.accord(8, 8));
        fails(BOUNDS, "accord -1", () -> x.accord(-1, -1));
        fails(BOUNDS, "thing", () -> x.thing(8, 7));
        fails(BOUNDS, "often", () -> x.often(8, 100));
        fails(BOUNDS, "pairs", () -> x.pairs(8, 0, 13));
        fails(BOUNDS, "pairs with", () -> x.pairs(0, 8, 13));
        fails(BOUNDS, "early thing", () -> x.early(8, 0, 61));
        fails(BOUNDS, "early time", () -> x.early(0, 1000, 61));
    }

    private static void upTo512Calls() {
        FactLines x = new FactLines();
        x.source(0);
        for (int i = 1; i < 511; i++) {
            x.rank(0, i % 100);
        }
        due("the 512th", x.undo(), 7);
        FactLines y = new FactLines();
        for (int i = 0; i < 255; i++) {
            y.feed(0x736f7572, 0x63652031, 0x20202020, 0x20202020, 0x20202020);
            y.end(8);
        }
        due("the 511th", y.acts(), 1);
        due("the 512th", y.heard(0, 0), 1);
    }

    public static void main(String[] args) {
        go("Terms 1, TIMES 0 to 999", TermTests::timesAre0To999);
        go("Terms 1, THINGS 0 to 7", TermTests::thingsAre0To7);
        go("Terms 1, SOURCES, at most 8", TermTests::sourcesAreAtMost8);
        go("Terms 1, RANK 0 to 99", TermTests::ranksAre0To99);
        go("Terms 1, SILENT or not", TermTests::aNewSourceIsNotSilent);
        go("Terms 1, WITHDRAWN or not", TermTests::aNewFactIsNotWithdrawn);
        go("Terms 1, FACTS, at most 60", TermTests::factsAreAtMost60);
        go("Terms 1, FACTS, at most 60, by CUT", TermTests::cutsFillUpTo60);
        go("Terms 1, full", TermTests::theFullOneAnswers);
        go("Terms 1, full, with rules", TermTests::theFullOneByRules);
        go("Terms 1, FROM less", TermTests::fromIsLessThanTo);
        go("Terms 1, from FROM on, TO not", TermTests::timesFromFromOnToNot);
        go("Terms 1, VALUE 0 to 99", TermTests::valuesAre0To99);
        go("Terms 1, HOLDS", TermTests::aFactHolds);
        go("Terms 1, BETTER", TermTests::betterByTurns);
        go("Terms 1, of each THING at most one", TermTests::ofEachThingAtMostOneRule);
        go("Terms 1, of THINGS of lesser numbers", TermTests::ofThingsOfLesserNumbers);
        go("Terms 1, what comes must be 0 to 99", TermTests::whatComesIs0To99);
        go("Terms 1, both must be something", TermTests::bothMustBeSomething);
        go("Terms 1, else, while, unless", TermTests::elseWhileUnless);
        go("Terms 1, from the left on", TermTests::partsFromTheLeftOn);
        go("Terms 1, a THING IS", TermTests::aThingIs);
        go("Terms 1, the first wrong byte of acts", TermTests::wordsOfActsInTheirPlaces);
        go("Terms 1, the first wrong byte of rules", TermTests::wordsOfRulesInTheirPlaces);
        go("Terms 1, at most 12 ATOMS", TermTests::ofARuleAtMost12Atoms);
        go("Terms 1, at most 4 brackets", TermTests::atMost4BracketsWithinOneAnother);
        go("Terms 1, a wrong rule", TermTests::ofAWrongRuleNothingWaits);
        go("Terms 1, at most 14 acts", TermTests::anActTooMany);
        go("Terms 1, numbers of texts", TermTests::numbersOfTexts);
        go("Terms 1, acts told in texts", TermTests::whatATextTellsIsTold);
        go("Terms 2, each act", TermTests::eachActAloneDoesNoMore);
        go("Terms 1, blanks and words", TermTests::blanksAndWords);
        go("Terms 1, the text's end", TermTests::aTextEndsWhereItEnds);
        go("Terms 1, a text of 400 bytes", TermTests::aTextOf400Bytes);
        go("Terms 1, each read whole", TermTests::readWholeAheadOfBeingDone);
        go("Terms 2, refusals", TermTests::eachRefusalByItsNumber);
        go("Terms 2, where several refusals meet", TermTests::theOneToldFirst);
        go("Terms 2, CUT", TermTests::cutAtATime);
        go("Terms 2, 8 are remembered", TermTests::eightAreRemembered);
        go("Terms 2, TAKEN BACK", TermTests::eachActIsTakenBack);
        go("Terms 2, TAKEN BACK, in place of others", TermTests::takenBackInPlaceOfOthers);
        go("Terms 2, what is remembered", TermTests::whatIsRemembered);
        go("Terms 2, WHY", TermTests::why);
        go("Terms 1, of a wrong text nothing stays", TermTests::ofAWrongTextNothingStays);
        go("Terms 3, a call that throws", TermTests::aCallThatThrowsLeavesAll);
        go("Terms 3, a call that throws, full", TermTests::aRefusalOfAFullOneLeavesAll);
        go("Terms 3, nothing happens", TermTests::whereNothingHappens);
        go("Terms 3, asking", TermTests::askingChangesNothing);
        go("Terms 3, SPANS, GAPS", TermTests::spansAndGaps);
        go("Terms 3, LACK", TermTests::lackGoesOn);
        go("Terms 3, BENEATH", TermTests::beneath);
        go("Terms 3, REIGN, IDLE, TOUCH", TermTests::reignIdleAndTouch);
        go("Terms 3, DISPUTE", TermTests::disputes);
        go("Terms 3, VOICE, ACCORD", TermTests::voiceAndAccord);
        go("Terms 3, SUM, MODE, OFTEN, TOGETHER", TermTests::sumsAndModes);
        go("Terms 3, LONGEST", TermTests::longest);
        go("Terms 3, HOW, PAIRS", TermTests::howOneLiesToAnother);
        go("Terms 3, SHARED", TermTests::sharedTimes);
        go("Terms 3, EARLY", TermTests::earlyByN);
        go("Terms 3, ORDER", TermTests::orderOfSources);
        go("Terms 3, NEAREST, REST, RUN", TermTests::nearestRestAndRun);
        go("Terms 3, change, first", TermTests::changesAndFirst);
        go("Terms 3, THE IMAGE", TermTests::theImage);
        go("Terms 3, THE IMAGE, but for", TermTests::theImageLeavesTheTapeFaultAndWhy);
        go("Terms 3, drawn anew", TermTests::drawnAnewManyTimes);
        go("Terms 3, of several exceptions", TermTests::theExceptionToldFirst);
        go("What it is, 512 calls", TermTests::upTo512Calls);
        close();
    }
}
