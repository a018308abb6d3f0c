import java.util.Objects;

/** What the tests share: asking for an answer or an exception, and telling texts. */
abstract class Check {
    static final int NONE = FactLines.NONE;
    static final String BOUNDS = "IndexOutOfBoundsException";
    static final String ARGUMENT = "IllegalArgumentException";
    static final String STATE = "IllegalStateException";
    static final String ELEMENT = "NoSuchElementException";

    interface Call {
        Object answer();
    }

    private static String where = "";
    private static int asked;
    private static int wrong;

    // ---- asking ----

    static void go(String name, Runnable test) {
        where = name;
        int before = asked;
        try {
            test.run();
        } catch (RuntimeException e) {
            wrong++;
            System.out.println(where + ": broke off by " + e);
            e.printStackTrace(System.out);
        }
        if (asked == before) {
            wrong++;
            System.out.println(where + ": asks nothing");
        }
    }

    static void close() {
        System.out.println(wrong == 0 ? asked + " answers are as due" : wrong + " answers are not as due");
        if (wrong != 0) {
            System.exit(1);
        }
    }

    static void due(String call, Object got, Object want) {
        asked++;
        if (!Objects.equals(got, want)) {
            wrong++;
            System.out.println(where + ": " + call + " answered " + got + ", due is " + want);
        }
    }

    /** The answer of a call, or the name of what it throws: the very class, for a subclass would be the machine's own. */
    static String outcome(Call made) {
        try {
            return String.valueOf(made.answer());
        } catch (RuntimeException e) {
            return e.getClass().getSimpleName();
        }
    }

    static void fails(String exception, String call, Call made) {
        due(call, outcome(made), exception);
    }

    static void refused(FactLines x, int why, String call, Call made) {
        fails(STATE, call, made);
        due(call + ", why()", x.why(), why);
    }

    // ---- texts ----

    static int word(String text, int at) {
        int n = 0;
        for (int i = at; i < at + 4; i++) {
            n = n << 8 | (i < text.length() ? text.charAt(i) : 0);
        }
        return n;
    }

    static void put(FactLines x, String text) {
        x.end(0);
        for (int i = 0; i < text.length(); i += 20) {
            x.feed(word(text, i), word(text, i + 4), word(text, i + 8), word(text, i + 12), word(text, i + 16));
        }
        x.end(text.length());
    }

    static int tell(FactLines x, String text) {
        put(x, text);
        return x.acts();
    }

    static void right(FactLines x, String text, int acts) {
        put(x, text);
        due("text " + text, outcome(x::acts), "" + acts);
        due("text " + text + ", fault()", x.fault(), NONE);
    }

    static void bad(FactLines x, String text, int at) {
        put(x, text);
        fails(ARGUMENT, "text " + text, x::acts);
        due("text " + text + ", fault()", x.fault(), at);
    }

    /** A text that is wrong by an act that is refused. */
    static void badBy(FactLines x, int why, String text, int at) {
        bad(x, text, at);
        due("text " + text + ", why()", x.why(), why);
    }

    static FactLines of(String text) {
        FactLines x = new FactLines();
        tell(x, text);
        return x;
    }

    /** Some acts, one behind another. */
    static String times(int n, String act) {
        StringBuilder sb = new StringBuilder();
        for (int i = 0; i < n; i++) {
            sb.append(i > 0 ? ";" : "").append(act);
        }
        return sb.toString();
    }
}
