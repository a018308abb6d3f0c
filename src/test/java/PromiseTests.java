/** For each promise of the document: ordinary inputs, the edges that it names, and wrong inputs. */
public final class PromiseTests extends Check {
    // ---- 1 to 6: the tape and texts ----

    private static void p1() {
        FactLines x = new FactLines();
        for (int what = 0; what < 8; what++) {
            due("count(" + what + ")", x.count(what), 0);
        }
        for (int thing = 0; thing < 8; thing++) {
            due("run", x.run(thing, 0), 1000);
            due("thing 4", x.thing(thing, 4), NONE);
        }
        due("NONE", NONE, -1);
        due("why", x.why(), 0);
        due("fault", x.fault(), NONE);
        due("back", x.back(), false);
    }

    private static void p2() {
        FactLines x = new FactLines();
        for (int i = 1; i <= 20; i++) {
            due("feed", x.feed(0, 0, 0, 0, 0), 20 * i);
        }
        due("feed 21", x.feed(0, 0, 0, 0, 0), NONE);
        due("feed 21 leaves", x.end(401), false);
        due("end 381", x.end(381), true);
        due("feed at 381", x.feed(1, 1, 1, 1, 1), NONE);
        due("still 381", x.end(382), false);
        due("end 380", x.end(380), true);
        due("feed at 380", x.feed(0, 0, 0, 0, 0), 400);
        // Of each number the highest byte first: "drop", " 0;h", ...
        FactLines y = of("source 1;fact 0 0 0 5 5");
        y.feed(0x64726f70, 0x20303b68, 0x75736820, 0x303b6865, 0x61722030);
        due("acts in byte order", y.acts(), 3);
        due("dropped", y.told(0, 5), 1);
        // A byte above 127 is no sign of its own.
        bad(y, "drop\u00e90", 4);
    }

    private static void p3() {
        FactLines x = new FactLines();
        due("end(0)", x.end(0), true);
        due("end(1)", x.end(1), false);
        due("end(-1)", x.end(-1), false);
        put(x, "source 1;source 2;");
        due("end(19)", x.end(19), false);
        due("end(18)", x.end(18), true);
        due("end(8)", x.end(8), true);
        due("end(9)", x.end(9), false);
        due("feed behind", x.feed(word("; so", 0), word("urce", 0), word(" 3  ", 0), 0x20202020, 0x20202020), 28);
        due("acts", x.acts(), 2);
        due("used up", x.end(1), false);
    }

    private static void p4() {
        FactLines x = new FactLines();
        right(x, "", 0);
        right(x, "   ", 0);
        right(x, " source 50 ;source 9", 2);
        right(x, "fact0 0 0010 0020 05;  drop0;hush 0;hear0;rank 0 7;fact 1 1 0 1000 99;cut1at500", 7);
        due("told", x.told(0, 2), 10);
        due("withdrawn", x.told(0, 5), 1);
        due("rank", x.heard(0, 0), 7);
        due("cut", x.told(2, 2), 500);
        right(x, "rule 2is thing 1-(4min 5)else 3;rule 2off", 2);
        right(x, "rule 2 is ((((thing1))))+thing 1+1+1+1+1+1+1+1+1+1+1", 1);
        due("atoms", x.thing(2, 4), 12);
        StringBuilder many = new StringBuilder("rule 1 is 1");
        for (int i = 1; i < 14; i++) {
            many.append(";rule 1 is 1");
        }
        right(x, many.toString(), 14);
        bad(x, many + ";rule 1 is 1", 14 * 12);
        bad(x, many + ";drop 59", 14 * 12);
        bad(x, many + ";nonsense", 14 * 12);
        bad(x, many + "; ", 14 * 12 + 1);
        bad(x, many + " x", 14 * 12);
        // Of a wrong text nothing stays, and the tape is used up.
        int sources = x.count(0);
        bad(x, "source 1;source 2;rule 1 off;hush 0;source 100", 43);
        due("sources", x.count(0), sources);
        due("rule", x.thing(1, 4), 1);
        due("silent", x.heard(0, 1), 0);
        due("tape", x.end(1), false);
        // Done one behind another: what an act told stands for the next one.
        right(new FactLines(), "source 1;fact 0 0 1 5 1;drop 0", 3);
        // A right text takes away what is remembered, an empty one too; a wrong one does not.
        FactLines y = new FactLines();
        y.source(1);
        bad(y, "source", 6);
        due("remembered", y.count(7), 1);
        right(y, "", 0);
        due("remembered", y.count(7), 0);
        y.source(2);
        right(y, "source 2", 1);
        fails(STATE, "undo", y::undo);
    }

    private static void p5() {
        FactLines x = new FactLines();
        due("fault ahead", x.fault(), NONE);
        bad(x, "source 100", 7);
        right(x, "source 0;source 99;rank 0 0;rank 1 99", 4);
        bad(x, "zource 1", 0);
        bad(x, "sourcez 1", 0);
        bad(x, "soarce 1", 0);
        bad(x, "cut 0 aat 1", 6);
        bad(x, "source 00009", 7);
        bad(x, "source x", 7);
        bad(x, "source", 6);
        bad(x, "source  ", 8);
        bad(x, "source 1;", 9);
        bad(x, "source 1; ", 10);
        bad(x, ";", 0);
        bad(x, " 5", 1);
        bad(x, "Source 1", 0);
        bad(x, "sources 1", 0);
        bad(x, "source 1 2", 9);
        bad(x, "source 1\n", 8);
        bad(x, "source -1", 7);
        bad(x, "source 1;fact 8 0 0 1 0", 14);
        bad(x, "source 1;fact 7 8 0 1 0", 16);
        bad(x, "source 1;fact 7 0 1000 1 0", 18);
        bad(x, "source 1;fact 7 0 0 0 0", 20);
        bad(x, "source 1;fact 7 0 0 1001 0", 20);
        bad(x, "source 1;fact 7 0 0 1000 100", 25);
        bad(x, "source 1;fact 7 0 0 1000", 24);
        bad(x, "source 1;fact 7 0 5 5 0", 9);
        bad(x, "source 1;fact 7 7 0 5 0", 9);
        right(x, "source 1;fact 7 0 0 1000 99;fact 7 0 999 1000 0", 3);
        bad(x, "drop 60", 5);
        bad(x, "drop 59", 0);
        bad(x, "hear 8", 5);
        bad(x, "hear 7", 0);
        bad(x, "rank 0 100", 7);
        bad(x, "rank 7 100", 7);
        bad(x, "rank 7 9", 0);
        bad(x, "rank 8 9", 5);
        bad(x, "cut 7 at 0", 9);
        bad(x, "cut 7 at 1000", 9);
        bad(x, "cut 7 is 5", 6);
        bad(x, "cut 7 5", 6);
        bad(x, "cut 6 at 5", 0);
        bad(x, "rule 8 is 1", 5);
        bad(x, "rule 7 at 1", 7);
        bad(x, "rule 7", 6);
        bad(x, "rule 7 is", 9);
        bad(x, "rule 7 is thing 7", 16);
        bad(x, "rule 0 is thing 0", 16);
        bad(x, "rule 7 is thing thing", 16);
        bad(x, "rule 7 is thing", 15);
        bad(x, "rule 7 is 1 1", 12);
        bad(x, "rule 7 is 1 plus 1", 12);
        bad(x, "rule 7 is 1 + + 1", 14);
        bad(x, "rule 7 is ()", 11);
        bad(x, "rule 7 is )", 10);
        bad(x, "rule 7 is 1)", 11);
        bad(x, "rule 7 is (1;", 12);
        bad(x, "rule 7 is (1", 12);
        bad(x, "rule 7 is (1))", 13);
        bad(x, "rule 7 is 100", 10);
        bad(x, "rule 7 is min", 10);
        bad(x, "rule 7 is else 1", 10);
        bad(x, "rule 7 is 1 off", 12);
        bad(x, "rule 7 is (((((1)))))", 14);
        bad(x, "rule 7 is 1+1+1+1+1+1+1+1+1+1+1+1+thing 0", 34);
        bad(x, "rule 7 is 1+1+1+1+1+1+1+1+1+1+1+1+((100))", 36);
        bad(x, "rule 7 off;rule 7 is 1", 0);
        // Refused ahead of what is wrong behind it.
        bad(x, "drop 59 x", 0);
        bad(x, "source 1 x;drop 59", 9);
        right(x, "source 1", 1);
        bad(x, "source", 6);
        x.source(1);
        due("fault stays", x.fault(), 6);
        right(x, "", 0);
    }

    private static void p6() {
        FactLines x = new FactLines();
        due("why at first", x.why(), 0);
        refused(x, 6, "off", () -> x.off(0));
        fails(ARGUMENT, "source(100)", () -> x.source(100));
        due("why stays", x.why(), 6);
        fails(STATE, "undo", x::undo);
        due("why stays", x.why(), 6);
        right(x, "", 0);
        due("why of an empty text", x.why(), 6);
        bad(x, "sauce", 0);
        due("why of a text wrong otherwise", x.why(), 6);
        bad(x, "source 1;hush 1", 9);
        due("why of a refused act", x.why(), 2);
        right(x, "source 1", 1);
        due("why of a right text", x.why(), 0);
        refused(x, 5, "drop", () -> x.drop(0));
        x.image();
        x.back();
        due("why stays with the image", x.why(), 5);
        x.source(1);
        due("why of a done act", x.why(), 0);
        refused(x, 3, "fact", () -> x.fact(0, 0, 5, 5, 0));
        x.undo();
        due("why stays with undo", x.why(), 3);
        // An act too many is not done, so it is not refused.
        bad(x, "rule 1 is 1;rule 1 is 1;rule 1 is 1;rule 1 is 1;rule 1 is 1;rule 1 is 1;rule 1 is 1;"
                + "rule 1 is 1;rule 1 is 1;rule 1 is 1;rule 1 is 1;rule 1 is 1;rule 1 is 1;rule 1 is 1;drop 9", 168);
        due("why of an act too many", x.why(), 3);
    }

    // ---- 7 to 14: acts ----

    private static void p7() {
        FactLines x = new FactLines();
        for (int i = 0; i < 8; i++) {
            due("source", x.source(i == 0 ? 0 : 99), i);
        }
        due("rank", x.heard(0, 0), 0);
        due("rank", x.heard(7, 0), 99);
        due("silent", x.heard(7, 1), 0);
        refused(x, 1, "source 9", () -> x.source(5));
        fails(ARGUMENT, "rank -1 first", () -> x.source(-1));
        fails(ARGUMENT, "rank 100 first", () -> x.source(100));
        bad(x, "source 5", 0);
        due("sources", x.count(0), 8);
    }

    private static void p8() {
        FactLines x = of("source 5");
        due("fact", x.fact(7, 0, 0, 1000, 99), 0);
        due("fact", x.fact(0, 0, 999, 1000, 0), 1);
        fails(BOUNDS, "thing first", () -> x.fact(8, 9, 2000, 0, 100));
        fails(BOUNDS, "thing -1", () -> x.fact(-1, 0, 0, 1, 0));
        fails(ARGUMENT, "from -1", () -> x.fact(0, 9, -1, 1, 0));
        fails(ARGUMENT, "from 1001", () -> x.fact(0, 0, 1001, 1, 0));
        fails(ARGUMENT, "to -1", () -> x.fact(0, 0, 0, -1, 0));
        fails(ARGUMENT, "to 1001", () -> x.fact(0, 0, 0, 1001, 0));
        fails(ARGUMENT, "value -1", () -> x.fact(0, 0, 0, 1, -1));
        fails(ARGUMENT, "value 100", () -> x.fact(0, 0, 0, 1, 100));
        due("why stays", x.why(), 0);
        refused(x, 2, "source 1", () -> x.fact(0, 1, 5, 5, 0));
        refused(x, 2, "source -1", () -> x.fact(0, -1, 0, 5, 0));
        refused(x, 3, "from is to", () -> x.fact(0, 0, 1000, 1000, 0));
        refused(x, 3, "from above to", () -> x.fact(0, 0, 6, 0, 0));
        for (int i = 2; i < 60; i++) {
            due("fact", x.fact(0, 0, i, i + 1, 0), i);
        }
        refused(x, 4, "fact 61", () -> x.fact(0, 0, 0, 1, 0));
        refused(x, 3, "3 ahead of 4", () -> x.fact(0, 0, 1, 1, 0));
        x.drop(59);
        refused(x, 4, "withdrawn ones count", () -> x.fact(0, 0, 0, 1, 0));
    }

    private static void p9() {
        FactLines x = of("source 5;fact 0 0 0 20 1;fact 0 0 5 10 2");
        refused(x, 5, "drop 2", () -> x.drop(2));
        refused(x, 5, "drop -1", () -> x.drop(-1));
        due("drop 1", x.drop(1), 5);
        due("shows again", x.at(0, 7), 1);
        refused(x, 5, "drop again", () -> x.drop(1));
        x.hush(0, false);
        due("drop of a silent source's", x.drop(0), 0);
        due("withdrawn", x.count(2), 2);
    }

    private static void p10() {
        FactLines x = of("source 5;source 6;fact 0 0 0 20 1;fact 0 0 5 10 2;fact 0 1 5 8 3;drop 1");
        refused(x, 2, "hush 2", () -> x.hush(2, false));
        refused(x, 2, "hear -1", () -> x.hush(-1, true));
        refused(x, 6, "hear", () -> x.hush(0, true));
        due("hush", x.hush(0, false), 1);
        refused(x, 6, "hush again", () -> x.hush(0, false));
        due("silent", x.at(0, 1), NONE);
        due("the other one", x.at(0, 6), 3);
        due("hear", x.hush(0, true), 1);
        due("heard again", x.at(0, 1), 1);
        FactLines y = of("source 5;source 6;fact 0 0 0 20 1;fact 7 0 5 10 2;fact 0 0 5 8 3");
        due("hush one of three facts", y.hush(0, false), 3);
        due("hush one without facts", y.hush(1, false), 0);
        y.drop(2);
        due("hear one of two", y.hush(0, true), 2);
        due("hear one without facts", y.hush(1, true), 0);
    }

    private static void p11() {
        FactLines x = of("source 5;source 6;fact 0 0 0 20 1;fact 0 1 0 20 2");
        fails(ARGUMENT, "rank 100 first", () -> x.rank(9, 100));
        fails(ARGUMENT, "rank -1", () -> x.rank(0, -1));
        refused(x, 2, "source 2", () -> x.rank(2, 0));
        refused(x, 2, "source -1", () -> x.rank(-1, 0));
        due("at", x.at(0, 0), 2);
        due("rank", x.rank(0, 99), 5);
        due("at", x.at(0, 0), 1);
        due("rank", x.rank(0, 6), 99);
        due("of like ones the lesser number", x.at(0, 0), 1);
        due("the same again", x.rank(0, 6), 6);
        due("remembered", x.count(7), 3);
    }

    private static void p12() {
        FactLines x = of("source 5;source 6;fact 0 0 0 20 1;fact 0 1 5 15 2;fact 0 0 10 30 3;"
                + "fact 0 0 2 10 4;fact 1 0 0 20 5;fact 0 0 1 40 6;drop 5;hush 1");
        fails(BOUNDS, "thing first", () -> x.cut(8, 0));
        fails(ARGUMENT, "time 0", () -> x.cut(0, 0));
        fails(ARGUMENT, "time 1000", () -> x.cut(0, 1000));
        refused(x, 6, "cut 2", () -> x.cut(2, 10));
        refused(x, 6, "cut 1 at its end", () -> x.cut(1, 20));
        // Not the one that begins there, not the one that ends there, nor the withdrawn one.
        due("cut", x.cut(0, 10), 2);
        due("facts", x.count(1), 8);
        due("first to", x.told(0, 3), 10);
        due("second to", x.told(1, 3), 10);
        due("third from", x.told(2, 2), 10);
        due("withdrawn to", x.told(5, 3), 40);
        int[][] news = {{0, 0, 10, 20, 1, 0}, {0, 1, 10, 15, 2, 0}};
        for (int i = 0; i < 2; i++) {
            for (int what = 0; what < 6; what++) {
                due("new " + i + " what " + what, x.told(6 + i, what), news[i][what]);
            }
        }
        FactLines y = of("source 5");
        for (int i = 0; i < 59; i++) {
            y.fact(i < 2 ? 0 : 1, 0, 0, 5, 1);
        }
        refused(y, 4, "two more", () -> y.cut(0, 3));
        refused(y, 6, "none", () -> y.cut(2, 3));
        due("nothing cut", y.told(0, 3), 5);
        y.drop(0);
        due("one more", y.cut(0, 3), 1);
        refused(y, 4, "full", () -> y.cut(1, 3));
        bad(y, "cut 1 at 3", 0);
    }

    private static void p13() {
        FactLines x = of("rule 2 is thing 1 + (3 else thing 0) - 4;rule 3 is 5");
        fails(BOUNDS, "thing 8", () -> x.off(8));
        fails(BOUNDS, "thing -1", () -> x.off(-1));
        refused(x, 6, "off 1", () -> x.off(1));
        due("off", x.off(2), 4);
        refused(x, 6, "off again", () -> x.off(2));
        due("off", x.off(3), 1);
        due("nothing", x.at(3, 0), NONE);
        due("rules", x.count(4), 0);
    }

    private static void p14() {
        FactLines x = new FactLines();
        fails(STATE, "undo", x::undo);
        x.source(1);
        for (int i = 0; i < 7; i++) {
            x.fact(0, 0, 2 * i, 2 * i + 2, i);
        }
        due("remembered", x.count(7), 8);
        x.cut(0, 5);
        due("remembered", x.count(7), 8);
        fails(STATE, "a refused act is not remembered", () -> x.cut(0, 5));
        due("undo the cut", x.undo(), 7);
        due("facts", x.count(1), 7);
        due("to", x.told(2, 3), 6);
        for (int i = 6; i >= 0; i--) {
            due("undo", x.undo(), i);
            due("facts", x.count(1), i);
        }
        due("the ninth is not remembered", x.count(0), 1);
        fails(STATE, "undo", x::undo);
        FactLines y = of("source 5;source 6;fact 0 0 1 5 9;rule 0 is 3");
        y.rank(0, 50);
        y.hush(0, false);
        y.off(0);
        y.drop(0);
        y.hush(0, true);
        due("undo hear", y.undo(), 4);
        due("silent", y.heard(0, 1), 1);
        due("undo drop", y.undo(), 3);
        due("withdrawn", y.told(0, 5), 0);
        due("undo off", y.undo(), 2);
        due("by rule", y.at(0, 2), 3);
        due("undo hush", y.undo(), 1);
        due("by fact", y.at(0, 2), 9);
        due("undo rank", y.undo(), 0);
        due("rank", y.heard(0, 0), 5);
        y.source(7);
        y.undo();
        due("an act behind an undo", y.source(8), 2);
        due("rank", y.heard(2, 0), 8);
        due("undo it", y.undo(), 0);
        // The image and the tape are not taken back.
        y.source(9);
        y.image();
        y.feed(0, 0, 0, 0, 0);
        y.undo();
        due("tape", y.end(20), true);
        due("image", y.back(), true);
        due("sources", y.count(0), 3);
    }

    // ---- 15 to 23: what holds, spans and gaps ----

    private static void places(String call, java.util.function.IntBinaryOperator made) {
        fails(BOUNDS, call + " thing 8", () -> made.applyAsInt(8, 0));
        fails(BOUNDS, call + " thing -1", () -> made.applyAsInt(-1, 0));
        fails(BOUNDS, call + " time 1000", () -> made.applyAsInt(0, 1000));
        fails(BOUNDS, call + " time -1", () -> made.applyAsInt(0, -1));
    }

    private static void p15() {
        FactLines x = of("source 5;source 6;fact 0 0 10 20 1");
        places("at", x::at);
        due("ahead", x.at(0, 9), NONE);
        due("from", x.at(0, 10), 1);
        due("last", x.at(0, 19), 1);
        due("to", x.at(0, 20), NONE);
        tell(x, "fact 0 1 12 18 2;fact 0 0 12 14 3;rule 0 is 4");
        due("the greater rank, though longer", x.at(0, 12), 2);
        due("rule without a fact", x.at(0, 999), 4);
        tell(x, "rank 1 0");
        due("the shorter one", x.at(0, 12), 3);
        due("the longer one again", x.at(0, 14), 1);
        // What rules make.
        FactLines y = of("source 5;fact 0 0 10 20 40;fact 1 0 15 25 70");
        String[] rules = {"thing 0 + thing 1", "thing 1 - thing 0", "thing 0 - thing 1", "thing 0 min thing 1",
            "thing 0 max thing 1", "thing 0 else thing 1", "thing 0 while thing 1", "thing 0 unless thing 1", "99",
            "thing 1 - thing 0 + 69", "thing 1 - thing 0 + 70", "thing 0 - thing 1 + 50", "9 - 3 - 2",
            "1 + thing 0 else 5", "(1 + thing 0) else 5", "9 unless thing 1 else 8", "9 unless (thing 1 else 8)",
            "1 + 2 max 9 min 4", "thing 0 else thing 1 while thing 0", "thing 0 + thing 1 min 5"};
        int[][] makes = {{-1, -1, -1}, {-1, 30, -1}, {-1, -1, -1}, {-1, 40, -1},
            {-1, 70, -1}, {40, 40, 70}, {-1, 40, -1}, {40, -1, -1}, {99, 99, 99},
            {-1, 99, -1}, {-1, -1, -1}, {-1, -1, -1}, {4, 4, 4},
            {41, 41, 6}, {41, 41, 5}, {9, 8, 8}, {-1, -1, -1},
            {4, 4, 4}, {40, 40, -1}, {-1, -1, -1}};
        for (int i = 0; i < rules.length; i++) {
            tell(y, "rule 2 is " + rules[i]);
            for (int k = 0; k < 3; k++) {
                due(rules[i] + " at " + (12 + 5 * k), y.at(2, 12 + 5 * k), makes[i][k]);
            }
        }
    }

    private static void p16() {
        FactLines x = of("source 5;source 6;fact 0 0 10 20 1;fact 0 1 12 14 1;rule 1 is 3 while thing 0");
        places("by", (thing, time) -> x.by(thing, time, 9));
        fails(ELEMENT, "how 3", () -> x.by(0, 0, 3));
        fails(ELEMENT, "how -1", () -> x.by(0, 0, -1));
        due("fact", x.by(0, 12, 0), 1);
        due("source", x.by(0, 12, 1), 1);
        due("kind", x.by(0, 12, 2), 0);
        due("fact", x.by(0, 14, 0), 0);
        due("source", x.by(0, 14, 1), 0);
        due("fact of a rule", x.by(1, 14, 0), NONE);
        due("source of a rule", x.by(1, 14, 1), NONE);
        due("kind of a rule", x.by(1, 14, 2), 1);
        due("kind of nothing by a rule", x.by(1, 20, 2), 2);
        due("fact of nothing", x.by(0, 20, 0), NONE);
        due("source of nothing", x.by(0, 20, 1), NONE);
        due("kind of nothing", x.by(0, 20, 2), 2);
    }

    private static void p17() {
        FactLines x = of("source 5;source 6;source 5;fact 0 0 10 20 1;fact 0 0 11 21 2;fact 0 0 12 15 3;"
                + "fact 0 1 0 1000 4;fact 0 2 13 14 5;fact 0 0 12 15 9;fact 0 0 12 15 9;fact 1 0 0 99 9");
        places("beneath", (thing, time) -> x.beneath(thing, time, NONE));
        due("count", x.beneath(0, 13, NONE), 7);
        int[] best = {3, 5, 6, 2, 1, 0, 4};
        for (int k = 0; k < 7; k++) {
            due("beneath " + k, x.beneath(0, 13, k), best[k]);
        }
        due("beneath 7", x.beneath(0, 13, 7), NONE);
        due("beneath -2", x.beneath(0, 13, -2), NONE);
        x.hush(0, false);
        due("count", x.beneath(0, 13, NONE), 2);
        due("beneath 1", x.beneath(0, 13, 1), 4);
        due("none", x.beneath(2, 13, NONE), 0);
    }

    private static FactLines rows() {
        // Spans of thing 0: 0 to 10 is 1, 10 to 15 is 2, 20 to 30 is 2, 990 to 1000 is 1.
        return of("source 5;source 6;fact 0 0 0 5 1;fact 0 1 4 10 1;fact 0 0 8 15 2;fact 0 0 20 25 2;"
                + "fact 0 0 25 30 2;fact 0 0 990 1000 1");
    }

    private static void p18() {
        FactLines x = rows();
        fails(BOUNDS, "thing first", () -> x.span(8, 0, 3));
        fails(BOUNDS, "thing -1", () -> x.span(-1, 0, 0));
        fails(ELEMENT, "what 3", () -> x.span(0, NONE, 3));
        fails(ELEMENT, "what -1", () -> x.span(0, 0, -1));
        int[][] spans = {{0, 10, 1}, {10, 15, 2}, {20, 30, 2}, {990, 1000, 1}};
        for (int what = 0; what < 3; what++) {
            due("count", x.span(0, NONE, what), 4);
            for (int k = 0; k < 4; k++) {
                due("span " + k + " what " + what, x.span(0, k, what), spans[k][what]);
            }
            due("span 4", x.span(0, 4, what), NONE);
            due("span -2", x.span(0, -2, what), NONE);
        }
        // A fact and a rule that are the same are one span.
        tell(x, "rule 0 is 2");
        due("count", x.span(0, NONE, 0), 3);
        due("to", x.span(0, 1, 1), 990);
    }

    private static void p19() {
        FactLines x = rows();
        fails(BOUNDS, "thing first", () -> x.gap(8, 0, 2));
        fails(ELEMENT, "what 2", () -> x.gap(0, NONE, 2));
        fails(ELEMENT, "what -1", () -> x.gap(0, 0, -1));
        int[][] gaps = {{15, 20}, {30, 990}};
        for (int what = 0; what < 2; what++) {
            due("count", x.gap(0, NONE, what), 2);
            for (int k = 0; k < 2; k++) {
                due("gap " + k + " what " + what, x.gap(0, k, what), gaps[k][what]);
            }
            due("gap 2", x.gap(0, 2, what), NONE);
            due("gap -2", x.gap(0, -2, what), NONE);
        }
        due("whole", x.gap(1, 0, 1), 1000);
        tell(x, "rule 1 is 0");
        due("none", x.gap(1, NONE, 0), 0);
    }

    private static void lacks(FactLines x, String rule, int end, int... row) {
        tell(x, "rule 7 is " + rule);
        due(rule + " count", x.lack(7, 0, NONE), row.length);
        due(rule + " end", x.lack(7, 0, -2), end);
        for (int k = 0; k < row.length; k++) {
            due(rule + " row " + k, x.lack(7, 0, k), row[k]);
        }
        due(rule + " behind", x.lack(7, 0, row.length), NONE);
        due(rule + " -3", x.lack(7, 0, -3), NONE);
    }

    private static void p20() {
        // Things 0 and 1 are nothing, 2 is 60; 3 by 1; 4 is beyond; 5 is kept away by 2.
        FactLines x = of("source 5;fact 2 0 0 10 60;rule 3 is thing 1 + 1;rule 4 is thing 2 + 40;rule 5 is 1 unless thing 2");
        places("lack", (thing, time) -> x.lack(thing, time, 0));
        for (int k = -2; k < 2; k++) {
            due("lack of something " + k, x.lack(2, 0, k), NONE);
        }
        due("without a rule", x.lack(0, 0, NONE), 1);
        due("without a rule ends", x.lack(0, 0, -2), 0);
        lacks(x, "thing 3", 0, 7, 3, 1);
        lacks(x, "thing 4", 1, 7, 4);
        lacks(x, "thing 5", 2, 7, 5);
        lacks(x, "thing 0 + thing 3", 0, 7, 0);
        lacks(x, "1 + thing 3 + thing 0", 0, 7, 3, 1);
        lacks(x, "60 + 60 - thing 3", 1, 7);
        lacks(x, "(60 + 60) - thing 3", 1, 7);
        lacks(x, "thing 2 - 61", 1, 7);
        lacks(x, "thing 2 - thing 4", 1, 7, 4);
        lacks(x, "thing 0 else thing 3", 0, 7, 3, 1);
        lacks(x, "thing 3 else thing 0 else thing 4", 1, 7, 4);
        lacks(x, "thing 0 while thing 3", 0, 7, 3, 1);
        lacks(x, "thing 0 while thing 2", 0, 7, 0);
        lacks(x, "thing 0 unless thing 2", 2, 7);
        lacks(x, "thing 3 unless thing 0", 0, 7, 3, 1);
        lacks(x, "1 min (2 max thing 5)", 2, 7, 5);
        lacks(x, "(60 + 60) else (60 + 60)", 1, 7);
        lacks(x, "1 while (thing 0 unless thing 1)", 0, 7, 0);
        tell(x, "rule 1 is thing 0;rule 2 is thing 1;rule 3 is thing 2;rule 4 is thing 3;rule 5 is thing 4;rule 6 is thing 5;"
                + "rule 7 is thing 6");
        due("eight", x.lack(7, 500, NONE), 8);
        due("the last one", x.lack(7, 500, 7), 0);
    }

    private static void p21() {
        FactLines x = rows();
        places("change", (thing, time) -> x.change(thing, time, true));
        places("change ahead", (thing, time) -> x.change(thing, time, false));
        int[] times = {0, 9, 10, 14, 15, 29, 30, 989, 990, 999};
        int[] ahead = {10, 10, 15, 15, 20, 30, 990, 990, NONE, NONE};
        int[] back = {0, 0, 10, 10, 15, 20, 30, 30, 990, 990};
        for (int i = 0; i < times.length; i++) {
            due("ahead of " + times[i], x.change(0, times[i], false), ahead[i]);
            due("back of " + times[i], x.change(0, times[i], true), back[i]);
        }
        due("never", x.change(1, 5, false), NONE);
        due("ever", x.change(1, 999, true), 0);
    }

    private static void p22() {
        FactLines x = rows();
        places("run", x::run);
        int[] times = {0, 9, 10, 15, 19, 25, 500, 999};
        int[] runs = {10, 10, 5, 5, 5, 10, 960, 10};
        for (int i = 0; i < times.length; i++) {
            due("run " + times[i], x.run(0, times[i]), runs[i]);
        }
    }

    private static void p23() {
        FactLines x = rows();
        places("first", (thing, time) -> x.first(thing, time, 100));
        fails(ARGUMENT, "value 100", () -> x.first(0, 0, 100));
        fails(ARGUMENT, "value -1", () -> x.first(0, 0, -1));
        due("at once", x.first(0, 0, 1), 0);
        due("at once within", x.first(0, 7, 1), 7);
        due("later", x.first(0, 0, 2), 10);
        due("the next one", x.first(0, 15, 2), 20);
        due("far", x.first(0, 10, 1), 990);
        due("none any more", x.first(0, 30, 2), NONE);
        due("none", x.first(0, 0, 0), NONE);
    }

    // ---- 24 to 34: facts, sources, things ----

    private static void p24() {
        FactLines x = of("source 5;source 6;fact 0 0 10 30 1;fact 3 1 20 25 9;fact 0 1 20 25 1;fact 0 0 0 5 2;"
                + "rule 1 is thing 0 + 1;rule 2 is 5 unless thing 0");
        fails(BOUNDS, "fact 4 first", () -> x.told(4, 8));
        fails(BOUNDS, "fact -1", () -> x.told(-1, 0));
        fails(ELEMENT, "what 8", () -> x.told(0, 8));
        fails(ELEMENT, "what -1", () -> x.told(0, -1));
        int[] told = {3, 1, 20, 25, 9, 0, 5, 5};
        for (int what = 0; what < 8; what++) {
            due("what " + what, x.told(1, what), told[what]);
        }
        due("reign", x.told(0, 6), 15);
        due("touch of three things", x.told(0, 7), 45);
        due("touch of one with the same beneath", x.told(2, 7), 0);
        due("touch of three things", x.told(3, 7), 15);
        x.drop(3);
        due("withdrawn", x.told(3, 5), 1);
        due("reign of a withdrawn one", x.told(3, 6), 0);
        due("touch of a withdrawn one", x.told(3, 7), NONE);
        x.hush(0, false);
        due("reign of a silent one", x.told(0, 6), 0);
        due("touch of a silent one", x.told(0, 7), 0);
    }

    private static void p25() {
        FactLines x = of("source 5;fact 0 0 10 20 1");
        fails(BOUNDS, "bounds first", () -> x.how(1, 1));
        fails(BOUNDS, "other", () -> x.how(0, 1));
        fails(BOUNDS, "other -1", () -> x.how(0, -1));
        fails(ARGUMENT, "one", () -> x.how(0, 0));
        int[][] spans = {{21, 22}, {20, 22}, {15, 25}, {15, 20}, {15, 19}, {10, 25}, {10, 20}, {10, 19},
            {5, 25}, {5, 20}, {5, 15}, {5, 10}, {5, 9}};
        int[] mirrored = {12, 11, 10, 9, 8, 7, 6, 5, 4, 3, 2, 1, 0};
        for (int i = 0; i < 13; i++) {
            x.fact(i % 8, 0, spans[i][0], spans[i][1], 0);
            due("how " + i, x.how(0, i + 1), i);
            due("how back " + i, x.how(i + 1, 0), mirrored[i]);
        }
        x.drop(1);
        due("a withdrawn one", x.how(0, 1), 0);
    }

    private static void p26() {
        FactLines x = of("source 5;source 6;fact 0 0 10 30 1;fact 3 0 20 25 9;fact 0 1 20 25 1;fact 0 1 0 5 2;drop 3");
        fails(BOUNDS, "source 2 first", () -> x.heard(2, 4));
        fails(BOUNDS, "source -1", () -> x.heard(-1, 0));
        fails(ELEMENT, "what 4", () -> x.heard(0, 4));
        fails(ELEMENT, "what -1", () -> x.heard(0, -1));
        int[] heard = {5, 0, 2, 20};
        int[] other = {6, 0, 1, 5};
        for (int what = 0; what < 4; what++) {
            due("what " + what, x.heard(0, what), heard[what]);
            due("other what " + what, x.heard(1, what), other[what]);
        }
        tell(x, "fact 7 1 0 1 1;fact 7 1 999 1000 1");
        due("voice at both ends", x.heard(1, 3), 7);
        tell(x, "drop 4;drop 5");
        x.hush(1, false);
        due("silent", x.heard(1, 1), 1);
        due("facts of a silent one", x.heard(1, 2), 1);
        due("voice of a silent one", x.heard(1, 3), 0);
        due("voice of the other one", x.heard(0, 3), 25);
    }

    private static void p27() {
        FactLines x = of("source 5;source 6;source 9;fact 0 0 0 6 1;fact 0 1 0 4 1;fact 0 2 0 9 7;fact 1 0 0 9 1;"
                + "fact 1 1 7 9 1;fact 0 1 10 20 1");
        fails(BOUNDS, "bounds first", () -> x.accord(3, 3));
        fails(BOUNDS, "other", () -> x.accord(0, 3));
        fails(BOUNDS, "other -1", () -> x.accord(0, -1));
        fails(ARGUMENT, "one", () -> x.accord(0, 0));
        due("all, beneath another one", x.accord(0, 1), 100);
        due("none", x.accord(0, 2), 0);
        tell(x, "fact 0 1 2 3 2");
        due("five of six", x.accord(0, 1), 83);
        due("five of six", x.accord(1, 0), 83);
        tell(x, "hush 1");
        due("without any", x.accord(0, 1), 100);
    }

    private static void p28() {
        FactLines x = of("source 5;fact 0 0 0 10 1;fact 1 0 5 20 9;rule 2 is thing 0 - 1;rule 3 is 3 unless thing 0");
        fails(BOUNDS, "thing 8", () -> x.together(8, 0));
        fails(BOUNDS, "other 8", () -> x.together(0, 8));
        fails(BOUNDS, "other -1", () -> x.together(0, -1));
        due("two", x.together(0, 1), 5);
        due("one", x.together(1, 1), 15);
        due("by rule, 0 is something", x.together(2, 0), 10);
        due("never", x.together(3, 0), 0);
        tell(x, "fact 4 0 0 1000 1;rule 5 is 0");
        due("always", x.together(4, 5), 1000);
        due("by rule", x.together(1, 3), 10);
    }

    private static void p29() {
        FactLines x = of("source 5;source 6;fact 5 0 0 10 1;fact 5 1 8 12 2;fact 5 1 6 9 1;fact 5 0 20 30 7;fact 5 0 25 30 8;"
                + "fact 5 0 0 90 9;drop 5;rule 5 is thing 1 else (thing 4 + 3) while thing 1");
        fails(BOUNDS, "thing first", () -> x.thing(8, 7));
        fails(BOUNDS, "thing -1", () -> x.thing(-1, 0));
        fails(ELEMENT, "what 7", () -> x.thing(0, 7));
        fails(ELEMENT, "what -1", () -> x.thing(0, -1));
        // 0 to 9 is 1 (the shorter one of source 1), 9 to 12 is 2, 20 to 25 is 7, 25 to 30 is 8.
        int[] due = {5, 22, 2, 9 + 6 + 35 + 40, 4, 18, 1};
        int[] none = {0, 0, 0, 0, NONE, 0, NONE};
        for (int what = 0; what < 7; what++) {
            due("what " + what, x.thing(5, what), due[what]);
            due("without anything what " + what, x.thing(6, what), none[what]);
        }
        tell(x, "hush 0");
        due("no dispute by one source", x.thing(5, 2), 0);
        due("facts of a silent source", x.thing(5, 0), 5);
        FactLines y = of("source 5;fact 0 0 0 5 7;fact 0 0 5 10 3;fact 0 0 10 14 1;rule 1 is 0;rule 2 is 99");
        due("of several modes the least", y.thing(0, 6), 3);
        due("mode 0", y.thing(1, 6), 0);
        due("sum", y.thing(2, 3), 99000);
    }

    private static void p30() {
        FactLines x = rows();
        fails(BOUNDS, "thing first", () -> x.often(8, 100));
        fails(ARGUMENT, "value 100", () -> x.often(0, 100));
        fails(ARGUMENT, "value -1", () -> x.often(0, -1));
        due("1", x.often(0, 1), 20);
        due("2", x.often(0, 2), 15);
        due("0", x.often(0, 0), 0);
        tell(x, "rule 0 is 0");
        due("0 by rule", x.often(0, 0), 965);
    }

    private static void p31() {
        FactLines x = rows();
        places("nearest", x::nearest);
        int[] times = {0, 12, 15, 16, 17, 18, 509, 510, 999};
        int[] near = {0, 12, 14, 14, 14 + 0, 20, 29, 990, 999};
        for (int i = 0; i < times.length; i++) {
            due("nearest " + times[i], x.nearest(0, times[i]), near[i]);
        }
        due("none", x.nearest(1, 5), NONE);
        tell(x, "fact 2 0 500 501 0");
        due("only behind", x.nearest(2, 0), 500);
        due("only ahead", x.nearest(2, 999), 500);
        tell(x, "fact 2 0 506 507 0");
        due("of like ones the earlier", x.nearest(2, 503), 500);
        due("the later one", x.nearest(2, 504), 506);
    }

    private static void p32() {
        FactLines x = of("source 5;fact 0 0 10 20 1;fact 1 0 15 30 2;fact 0 0 20 25 2;fact 0 0 12 14 2;drop 3");
        fails(BOUNDS, "fact 4", () -> x.shared(4, 0));
        fails(BOUNDS, "other 4", () -> x.shared(0, 4));
        fails(BOUNDS, "other -1", () -> x.shared(0, -1));
        due("overlap", x.shared(0, 1), 5);
        due("overlap", x.shared(1, 0), 5);
        due("itself", x.shared(0, 0), 10);
        due("just behind", x.shared(0, 2), 0);
        due("far", x.shared(2, 3), 0);
        due("within, withdrawn", x.shared(3, 0), 2);
    }

    private static void p33() {
        FactLines x = rows();
        places("rest", x::rest);
        int[] times = {0, 9, 10, 15, 19, 20, 30, 989, 990, 999};
        int[] rests = {10, 1, 10, 5, 1, 970, 960, 1, NONE, NONE};
        for (int i = 0; i < times.length; i++) {
            due("rest " + times[i], x.rest(0, times[i]), rests[i]);
        }
        due("none", x.rest(1, 0), NONE);
    }

    private static void p34() {
        FactLines x = of("source 5;source 6;source 5;fact 0 0 10 20 1;fact 1 1 500 900 2;fact 0 2 0 1 3;fact 0 0 10 19 1;"
                + "fact 0 0 11 21 1;fact 0 0 10 20 2;fact 0 0 10 20 1;drop 6;hush 1");
        fails(BOUNDS, "fact 7", () -> x.better(7, 0));
        fails(BOUNDS, "other 7", () -> x.better(0, 7));
        fails(BOUNDS, "other -1", () -> x.better(0, -1));
        // Of each pair the first one is better: rank, source, times, from, value, number.
        int[][] pairs = {{1, 0}, {1, 2}, {0, 2}, {3, 0}, {4, 0}, {3, 4}, {5, 0}, {4, 5}, {0, 6}, {5, 6}};
        for (int[] pair : pairs) {
            due(pair[0] + " than " + pair[1], x.better(pair[0], pair[1]), true);
            due(pair[1] + " than " + pair[0], x.better(pair[1], pair[0]), false);
        }
        due("itself", x.better(0, 0), false);
        tell(x, "rank 1 4");
        due("ranked anew", x.better(1, 0), false);
    }

    // ---- 35 to 42: all together ----

    private static void p35() {
        FactLines x = rows();
        fails(BOUNDS, "thing 8", () -> x.longest(8, false));
        fails(BOUNDS, "thing -1", () -> x.longest(-1, true));
        due("span, of several the first", x.longest(0, false), 0);
        due("gap", x.longest(0, true), 1);
        due("no span", x.longest(1, false), NONE);
        due("whole gap", x.longest(1, true), 0);
        tell(x, "rule 1 is 5");
        due("no gap", x.longest(1, true), NONE);
        tell(x, "fact 0 0 100 111 5");
        due("span", x.longest(0, false), 3);
        tell(x, "fact 0 0 545 556 5");
        due("gap, of several", x.longest(0, true), 2);
    }

    private static void p36() {
        // Spans of 0: 10 to 20, 30 to 40; of 1: 5 to 15, 20 to 30, 30 to 35, 990 to 1000.
        FactLines x = of("source 5;fact 0 0 10 20 1;fact 0 0 30 40 1;fact 1 0 5 15 1;fact 1 0 20 30 2;fact 1 0 30 35 3;"
                + "fact 1 0 990 1000 4");
        fails(BOUNDS, "thing first", () -> x.pairs(8, 0, 13));
        fails(BOUNDS, "other first", () -> x.pairs(0, 8, 13));
        fails(ARGUMENT, "how 13", () -> x.pairs(0, 0, 13));
        fails(ARGUMENT, "how -1", () -> x.pairs(0, 0, -1));
        int[] pairs = {3, 1, 0, 0, 0, 0, 0, 1, 0, 0, 1, 1, 1};
        int[] back = {1, 1, 1, 0, 0, 1, 0, 0, 0, 0, 0, 1, 3};
        for (int how = 0; how < 13; how++) {
            due("how " + how, x.pairs(0, 1, how), pairs[how]);
            due("back " + how, x.pairs(1, 0, how), back[how]);
        }
        due("one thing", x.pairs(0, 0, 6), 2);
        due("one thing", x.pairs(0, 0, 0), 1);
        due("nothing", x.pairs(0, 2, 0), 0);
    }

    private static void p37() {
        FactLines x = of("source 5;source 6;fact 0 0 10 20 1;fact 0 1 10 20 2;fact 0 1 12 14 3;rule 1 is thing 0 + 5;rule 0 is 9");
        places("early", (thing, time) -> x.early(thing, time, 9));
        fails(ARGUMENT, "n 4", () -> x.early(0, 0, 4));
        fails(ARGUMENT, "n -1", () -> x.early(0, 0, -1));
        int[] early = {9, 1, 2, 3};
        for (int n = 0; n < 4; n++) {
            due("n " + n, x.early(0, 12, n), early[n]);
            due("by rule, n " + n, x.early(1, 12, n), early[n] + 5);
        }
        tell(x, "hush 1;drop 0;rule 0 off");
        for (int n = 0; n < 4; n++) {
            due("n " + n, x.early(0, 12, n), NONE);
        }
        due("at is as it is", x.at(0, 12), NONE);
    }

    private static void p38() {
        FactLines x = of("source 5;source 7;source 5;source 99;hush 3");
        int[] order = {3, 1, 0, 2, NONE};
        for (int k = 0; k < 5; k++) {
            due("order " + k, x.order(k), order[k]);
        }
        due("order -1", x.order(-1), NONE);
        tell(x, "rank 2 6;rank 3 0");
        order = new int[] {1, 2, 0, 3, NONE};
        for (int k = 0; k < 5; k++) {
            due("order " + k, x.order(k), order[k]);
        }
    }

    private static void p39() {
        FactLines x = of("source 5;source 6;fact 0 0 10 20 1;fact 0 1 0 50 2;fact 0 0 40 60 3;fact 0 0 5 6 4;fact 0 0 5 6 4;drop 3");
        due("idle 0", x.idle(0), 0);
        due("idle 1", x.idle(1), 4);
        due("idle 2", x.idle(2), NONE);
        due("idle -1", x.idle(-1), NONE);
        x.hush(1, false);
        due("idle 0", x.idle(0), 1);
        due("idle 1", x.idle(1), NONE);
    }

    private static void p40() {
        FactLines x = of("source 5;fact 0 0 10 20 1;rule 1 is thing 0");
        x.image();
        due("nothing changes", x.count(1), 1);
        x.drop(0);
        x.source(9);
        due("remembered", x.count(7), 2);
        x.image();
        due("remembered still", x.count(7), 2);
        x.undo();
        x.undo();
        x.off(1);
        due("back", x.back(), true);
        due("the later image", x.count(0), 2);
        due("withdrawn", x.told(0, 5), 1);
        due("rule", x.thing(1, 4), 1);
    }

    private static void p41() {
        FactLines x = new FactLines();
        x.source(5);
        due("none kept", x.back(), false);
        due("nothing happens", x.count(7), 1);
        tell(x, "fact 0 0 10 20 1;rule 1 is thing 0");
        x.image();
        x.cut(0, 15);
        x.hush(0, false);
        x.rank(0, 8);
        x.off(1);
        bad(x, "drop 9", 0);
        put(x, "source 1");
        due("at ahead of back", x.at(0, 17), NONE);
        due("back", x.back(), true);
        due("at behind back", x.at(0, 17), 1);
        due("remembered", x.count(7), 0);
        fails(STATE, "undo", x::undo);
        due("facts", x.count(1), 1);
        due("to", x.told(0, 3), 20);
        due("heard", x.at(1, 17), 1);
        due("rank", x.heard(0, 0), 5);
        due("why stays", x.why(), 5);
        due("fault stays", x.fault(), 0);
        due("tape stays", x.acts(), 1);
        due("back again", x.back(), true);
        due("sources", x.count(0), 1);
    }

    private static void p42() {
        FactLines x = of("source 5;source 6;fact 0 0 10 20 1;fact 0 1 0 50 2;fact 3 0 40 60 3;drop 2;rule 4 is thing 0;"
                + "rule 5 is thing 0 - 9;hush 1");
        x.source(1);
        x.hush(2, false);
        int[] counts = {3, 3, 1, 2, 2, 1, 2, 2};
        for (int what = 0; what < 8; what++) {
            due("count " + what, x.count(what), counts[what]);
        }
        due("count 8", x.count(8), NONE);
        due("count -1", x.count(-1), NONE);
        x.off(4);
        due("rules", x.count(4), 1);
        due("spans", x.count(6), 1);
        tell(x, "hush 0;rule 0 is 1;rule 7 is 1");
        int[] later = {3, 3, 1, 3, 3, 2, 2, 0};
        for (int what = 0; what < 8; what++) {
            due("count " + what, x.count(what), later[what]);
        }
    }

    public static void main(String[] args) {
        Runnable[] all = {PromiseTests::p1, PromiseTests::p2, PromiseTests::p3, PromiseTests::p4, PromiseTests::p5,
            PromiseTests::p6, PromiseTests::p7, PromiseTests::p8, PromiseTests::p9, PromiseTests::p10,
            PromiseTests::p11, PromiseTests::p12, PromiseTests::p13, PromiseTests::p14, PromiseTests::p15,
            PromiseTests::p16, PromiseTests::p17, PromiseTests::p18, PromiseTests::p19, PromiseTests::p20,
            PromiseTests::p21, PromiseTests::p22, PromiseTests::p23, PromiseTests::p24, PromiseTests::p25,
            PromiseTests::p26, PromiseTests::p27, PromiseTests::p28, PromiseTests::p29, PromiseTests::p30,
            PromiseTests::p31, PromiseTests::p32, PromiseTests::p33, PromiseTests::p34, PromiseTests::p35,
            PromiseTests::p36, PromiseTests::p37, PromiseTests::p38, PromiseTests::p39, PromiseTests::p40,
            PromiseTests::p41, PromiseTests::p42};
        for (int i = 0; i < all.length; i++) {
            go("promise " + (i + 1), all[i]);
        }
        close();
    }
}
