import java.lang.reflect.InvocationTargetException;
import java.lang.reflect.Method;
import java.util.ArrayList;
import java.util.Arrays;
import java.util.List;

/**
 * Long runs of calls, the same at every start, on FactLines and on Model: all answers and
 * exceptions must be alike. An argument tells how many runs.
 */
public final class FuzzTests {
    /** An object is good for 512 calls, and a text may use 25 of them. */
    private static final int CALLS = 480;
    private static final String[] ASKED = {
        "at", "by", "beneath", "span", "gap", "lack", "change", "run", "first", "told", "how", "heard",
        "accord", "together", "thing", "often", "nearest", "shared", "rest", "better", "longest", "pairs",
        "early", "order", "idle", "count", "why", "fault", "lack"};
    private static long seed;

    private static int below(int n) {
        seed = seed * 6364136223846793005L + 1442695040888963407L;
        return (int) ((seed >>> 33) % n);
    }

    private static boolean oneIn(int n) {
        return below(n) == 0;
    }

    private int near(int bound) {
        if (!oneIn(tidy ? 100 : 25)) return below(bound);
        return new int[] {-1, -2, bound, bound + 1, Integer.MIN_VALUE, Integer.MAX_VALUE}[below(6)];
    }

    private final List<String> log = new ArrayList<>();
    private final FactLines real = new FactLines();
    private final Model model = new Model();
    private final int things;
    private final int spread;
    private final int values;
    private final boolean crowded;
    /** Few faults, and many rules. */
    private final boolean tidy;
    /** Begins with eight sources, nearly all the facts that there can be, and long rules. */
    private final boolean filled;
    private int calls;

    private FuzzTests() {
        things = 1 + below(8);
        spread = new int[] {8, 30, 1000}[below(3)];
        values = new int[] {3, 30, 100}[below(3)];
        crowded = oneIn(3);
        tidy = oneIn(2);
        filled = oneIn(4);
    }

    private int time() {
        if (oneIn(30)) return near(1000);
        return oneIn(20) ? 999 - below(3) : below(spread);
    }

    private int told(int what) {
        calls++;
        return real.count(what);
    }

    private int aThing() {
        return oneIn(tidy ? 40 : 10) ? near(8) : below(things);
    }

    private int aFact() {
        int n = told(1);
        return n == 0 || oneIn(20) ? near(60) : below(n);
    }

    private int aSource() {
        int n = told(0);
        return n == 0 || oneIn(20) ? near(9) : below(n);
    }

    private int aValue() {
        return oneIn(30) ? near(100) : below(values);
    }

    /** Calls one method on both; false, if they are unlike. */
    private boolean both(String name, Object... args) {
        calls++;
        String a = call(real, name, args);
        String b = call(model, name, args);
        log.add(name + Arrays.toString(args) + " -> " + a);
        if (a.equals(b)) return true;
        System.out.println("unlike: " + name + Arrays.toString(args) + " answered " + a + ", due is " + b);
        return false;
    }

    private static String call(Object on, String name, Object... args) {
        for (Method m : on.getClass().getDeclaredMethods()) {
            if (m.getName().equals(name) && java.lang.reflect.Modifier.isPublic(m.getModifiers())) {
                try {
                    return String.valueOf(m.invoke(on, args));
                } catch (InvocationTargetException e) {
                    return e.getCause().getClass().getName();
                } catch (IllegalAccessException e) {
                    throw new AssertionError(e);
                }
            }
        }
        throw new AssertionError(name);
    }

    private boolean act() {
        switch (below(crowded ? 9 : 14)) {
            case 0: return both("source", oneIn(20) ? near(100) : below(4) * 20);
            case 1: case 2: case 3: case 4: case 5: {
                int from = time();
                int to = oneIn(3) ? time() : from + below(10) + 1;
                return both("fact", aThing(), aSource(), from, to, aValue());
            }
            case 6: return both("cut", aThing(), time());
            case 7: return both("rank", aSource(), oneIn(20) ? near(100) : below(4) * 20);
            case 8: return both("hush", aSource(), !oneIn(3));
            case 9: case 10: return both("drop", aFact());
            case 11: return both("off", aThing());
            case 12: return both("undo");
            default: return oneIn(2) ? both("image") : both("back");
        }
    }

    private boolean ask() {
        String name = ASKED[below(ASKED.length)];
        int k = below(9) - 2;
        switch (name) {
            case "at": case "run": case "nearest": case "rest": return both(name, aThing(), time());
            case "by": return both(name, aThing(), time(), near(3));
            case "lack": return asksLack(k);
            case "beneath": return both(name, aThing(), time(), k);
            case "span": return both(name, aThing(), k, near(3));
            case "gap": return both(name, aThing(), k, near(2));
            case "change": return both(name, aThing(), time(), oneIn(2));
            case "first": return both(name, aThing(), time(), aValue());
            case "told": return both(name, aFact(), near(8));
            case "how": case "shared": case "better": return both(name, aFact(), aFact());
            case "heard": return both(name, aSource(), near(4));
            case "accord": return both(name, aSource(), aSource());
            case "together": return both(name, aThing(), aThing());
            case "thing": return both(name, aThing(), near(7));
            case "often": return both(name, aThing(), aValue());
            case "longest": return both(name, aThing(), oneIn(2));
            case "pairs": return both(name, aThing(), aThing(), near(13));
            case "early": return both(name, aThing(), time(), near(told(1) + 1));
            case "order": case "idle": return both(name, k);
            case "count": return both(name, near(8));
            default: return both(name);
        }
    }

    private boolean asksLack(int k) {
        int thing = aThing();
        int time = time();
        return both("lack", thing, time, k) && both("lack", thing, time, -2) && both("lack", thing, time, -1)
                && both("lack", thing, time, 1);
    }

    // ---- texts ----

    private String blanks() {
        return oneIn(8) ? "  " : oneIn(3) ? " " : "";
    }

    private String num(int n) {
        if (oneIn(tidy ? 600 : 60)) return "0000" + n;
        return blanks() + (oneIn(15) ? "0" + n : "" + n) + blanks();
    }

    private String atom(int thing, int depth) {
        if (depth < 5 && oneIn(4)) return "(" + rule(thing, depth + 1) + ")" + blanks();
        int t = oneIn(tidy ? 300 : 30) ? near(8) : thing > 0 ? below(thing) : 0;
        return thing > 0 && !oneIn(3) ? "thing" + num(t) : num(aValue());
    }

    private String rule(int thing, int depth) {
        StringBuilder sb = new StringBuilder(atom(thing, depth));
        while (oneIn(2)) {
            String[] signs = {"+", "-", "min", "max", "else", "while", "unless"};
            sb.append(signs[below(7)]).append(blanks()).append(atom(thing, depth));
        }
        return sb.toString();
    }

    private String oneAct() {
        int thing = aThing();
        switch (tidy ? 6 + below(15) : below(12)) {
            case 0: return "source" + num(below(100));
            case 1: return "drop" + num(aFact());
            case 2: return "hush" + num(aSource());
            case 3: return "hear" + num(aSource());
            case 4: return "rank" + num(aSource()) + " " + num(below(100));
            case 5: return "cut" + num(thing) + "at" + num(time());
            case 6: return oneIn(tidy ? 4 : 1) ? "rule" + num(thing) + "off" : "rank" + num(aSource()) + " 5";
            case 7: case 8: {
                int from = time();
                return "fact" + num(thing) + " " + num(aSource()) + " " + num(from) + " "
                        + num(from + 1 + below(20)) + " " + num(aValue());
            }
            default: return "rule" + num(thing) + "is" + blanks() + rule(thing, 0);
        }
    }

    private String aText() {
        StringBuilder sb = new StringBuilder(blanks());
        int acts = oneIn(12) ? 13 + below(4) : below(5);
        for (int i = 0; i < acts; i++) {
            if (i > 0) sb.append(';').append(blanks());
            sb.append(acts > 12 && !oneIn(20) ? "rule 1 is 1" : oneAct()).append(blanks());
        }
        if (oneIn(tidy ? 20 : 4) && sb.length() > 0) {
            int at = below(sb.length());
            switch (below(4)) {
                case 0: sb.deleteCharAt(at); break;
                case 1: sb.insert(at, "; ()+x9\n".charAt(below(8))); break;
                case 2: sb.setLength(at); break;
                default: sb.setCharAt(at, (char) below(256)); break;
            }
        }
        return sb.toString();
    }

    private boolean tellText() {
        return tellText(aText());
    }

    private boolean tellText(String text) {
        int left = oneIn(15) ? 1 : 0;
        for (int i = 0; i < text.length() || i == 0 && left > 0; i += 20) {
            Object[] words = new Object[5];
            for (int w = 0; w < 5; w++) {
                int n = 0;
                for (int b = 0; b < 4; b++) {
                    int at = i + 4 * w + b;
                    n = n << 8 | (at < text.length() ? text.charAt(at) : 0);
                }
                words[w] = n;
            }
            if (!both("feed", words)) return false;
        }
        if (oneIn(20) && !both("end", near(420))) return false;
        log.add("text: " + text);
        return both("end", text.length()) && both("acts") && both("fault") && both("why");
    }

    private boolean fill() {
        boolean alike = true;
        for (int i = 0; i < 8 && alike; i++) {
            alike = both("source", below(4) * 20);
        }
        for (int i = 55 + below(6); i > 0 && alike; i--) {
            int from = below(1000);
            alike = both("fact", below(things), below(8), from, Math.min(1000, from + 1 + below(200)), below(values));
        }
        for (int thing = 1; thing < things && alike; thing++) {
            StringBuilder sb = new StringBuilder("rule " + thing + " is " + atom(thing, 5));
            for (int i = below(12); i > 0; i--) {
                sb.append(new String[] {"+", " min ", " max ", " else ", "-", " unless "}[below(6)]).append(atom(thing, 5));
            }
            alike = tellText(sb.toString());
        }
        return alike;
    }

    private boolean goOn() {
        if (filled && !fill()) return false;
        while (calls < CALLS) {
            int kind = below(10);
            boolean alike = kind < 4 ? act() : kind == 4 ? tellText() : ask();
            if (!alike) return false;
        }
        return true;
    }

    public static void main(String[] args) {
        int runs = args.length > 0 ? Integer.parseInt(args[0]) : 200;
        for (int run = 0; run < runs; run++) {
            seed = run * 7919L + 17;
            FuzzTests test = new FuzzTests();
            if (!test.goOn()) {
                System.out.println("in run " + run + " after:");
                for (String line : test.log) System.out.println("  " + line);
                System.exit(1);
            }
        }
        System.out.println(runs + " long runs are alike");
    }
}
