import java.io.IOException;
import java.lang.reflect.Constructor;
import java.lang.reflect.Field;
import java.lang.reflect.Method;
import java.lang.reflect.Modifier;
import java.nio.file.Files;
import java.nio.file.Path;
import java.util.ArrayList;
import java.util.Arrays;
import java.util.List;
import java.util.TreeSet;

/** The public face is the document's and nothing more; the source keeps to what can be told by its words. */
public final class FaceTests {
    private static final String FACE = """
            public int feed(int, int, int, int, int);
            public boolean end(int);
            public int acts() throws A;
            public int fault();
            public int why();
            public int source(int) throws A, S;
            public int fact(int, int, int, int, int) throws B, A, S;
            public int drop(int) throws S;
            public int hush(int, boolean) throws S;
            public int rank(int, int) throws A, S;
            public int cut(int, int) throws B, A, S;
            public int off(int) throws B, S;
            public int undo() throws S;
            public int at(int, int) throws B;
            public int by(int, int, int) throws B, N;
            public int beneath(int, int, int) throws B;
            public int span(int, int, int) throws B, N;
            public int gap(int, int, int) throws B, N;
            public int lack(int, int, int) throws B;
            public int change(int, int, boolean) throws B;
            public int run(int, int) throws B;
            public int first(int, int, int) throws B, A;
            public int told(int, int) throws B, N;
            public int how(int, int) throws B, A;
            public int heard(int, int) throws B, N;
            public int accord(int, int) throws B, A;
            public int together(int, int) throws B;
            public int thing(int, int) throws B, N;
            public int often(int, int) throws B, A;
            public int nearest(int, int) throws B;
            public int shared(int, int) throws B;
            public int rest(int, int) throws B;
            public boolean better(int, int) throws B;
            public int longest(int, boolean) throws B;
            public int pairs(int, int, int) throws B, A;
            public int early(int, int, int) throws B, A;
            public int order(int);
            public int idle(int);
            public void image();
            public boolean back();
            public int count(int);
            """;
    private static final List<String> RULED_OUT = List.of("catch", "finally", "synchronized", "assert ", "->", "::",
            "package ", "java.util.A", "java.util.L", "System.", "equals(", "hashCode", "toString", "static {",
            "protected ", "record ", "lambda", "Random", "Thread");

    private static int wrong;

    private static void need(boolean fine, String what) {
        if (!fine) {
            wrong++;
            System.out.println(what);
        }
    }

    private static String told(Method m) {
        List<String> types = new ArrayList<>();
        for (Class<?> type : m.getParameterTypes()) types.add(type.getSimpleName());
        List<String> thrown = new ArrayList<>();
        for (Class<?> type : m.getExceptionTypes()) {
            thrown.add(type == NoSuchElementException() ? "N" : type == IndexOutOfBoundsException.class ? "B"
                    : type == IllegalArgumentException.class ? "A" : type == IllegalStateException.class ? "S" : "?");
        }
        String ends = thrown.isEmpty() ? ";" : " throws " + String.join(", ", thrown) + ";";
        return Modifier.toString(m.getModifiers()) + " " + m.getReturnType().getSimpleName() + " " + m.getName()
                + "(" + String.join(", ", types) + ")" + ends;
    }

    private static Class<?> NoSuchElementException() {
        return java.util.NoSuchElementException.class;
    }

    private static void testFace() {
        TreeSet<String> due = new TreeSet<>(Arrays.asList(FACE.strip().split("\n")));
        TreeSet<String> got = new TreeSet<>();
        TreeSet<String> names = new TreeSet<>();
        for (Method m : FactLines.class.getDeclaredMethods()) {
            if (Modifier.isPrivate(m.getModifiers())) continue;
            got.add(told(m));
            names.add(m.getName());
        }
        need(due.equals(got), "the face is " + got + ", due is " + due);
        need(Modifier.toString(FactLines.class.getModifiers()).equals("public final"), "the class's modifiers");
        for (Constructor<?> c : FactLines.class.getDeclaredConstructors()) {
            need(c.getParameterCount() == 0 && Modifier.isPublic(c.getModifiers()), "a constructor of its own: " + c);
        }
        for (Field f : FactLines.class.getDeclaredFields()) {
            boolean isNone = f.getName().equals("NONE") && Modifier.toString(f.getModifiers()).equals("public static final");
            need(isNone || Modifier.isPrivate(f.getModifiers()), "a field that can be seen: " + f);
            need(!Modifier.isStatic(f.getModifiers()) || Modifier.isFinal(f.getModifiers()), "static state: " + f);
        }
        testPrivateNames(FactLines.class, names);
        for (Class<?> inside : FactLines.class.getDeclaredClasses()) {
            need(Modifier.isPrivate(inside.getModifiers()) && Modifier.isStatic(inside.getModifiers()), "a class " + inside);
            testPrivateNames(inside, names);
        }
        need(FactLines.class.getDeclaredClasses().length <= 12, "more than 12 classes");
    }

    private static void testPrivateNames(Class<?> in, TreeSet<String> names) {
        int fields = 0;
        for (Field f : in.getDeclaredFields()) fields += Modifier.isStatic(f.getModifiers()) ? 0 : 1;
        need(fields <= 20, in + " has " + fields + " fields");
        for (Method m : in.getDeclaredMethods()) {
            boolean isFace = in == FactLines.class && Modifier.isPublic(m.getModifiers());
            need(isFace || !names.contains(m.getName()), "a name of the face: " + m);
            need(m.getParameterCount() <= 7, "more than seven parameters: " + m);
        }
    }

    private static void testSource() throws IOException {
        List<String> lines = Files.readAllLines(Path.of("src/main/java/FactLines.java"));
        int begun = 0;
        for (int i = 0; i < lines.size(); i++) {
            String line = lines.get(i);
            for (int c = 0; c < line.length(); c++) need(line.charAt(c) < 127, "line " + (i + 1) + ": a strange sign");
            String code = line.replaceAll("\"[^\"]*\"", "\"\"").replaceAll("//.*|^\\s*/?\\*.*", "");
            for (String word : RULED_OUT) need(!code.contains(word), "line " + (i + 1) + ": " + word);
            if (code.contains("import ")) {
                need(code.equals("import java.util.NoSuchElementException;"), "line " + (i + 1) + ": " + code);
            }
            if (code.matches("(    ){1,2}[a-z].*\\(.*|            throws .*")) begun = i;
            if (code.matches("(    ){1,2}}")) need(i - begun <= 60, "line " + (begun + 1) + ": a long method");
        }
    }

    public static void main(String[] args) throws IOException {
        testFace();
        testSource();
        System.out.println(wrong == 0 ? "the face is as due" : wrong + " faults");
        if (wrong != 0) {
            System.exit(1);
        }
    }
}
