import java.io.IOException;
import java.lang.reflect.Method;
import java.lang.reflect.Modifier;
import java.nio.file.Files;
import java.nio.file.Path;
import java.util.ArrayList;
import java.util.List;
import java.util.regex.Matcher;
import java.util.regex.Pattern;

/**
 * Writes a program of README.md's examples of use, in which each call is due to answer what stands behind it, and
 * looks whether README.md names each method of the face and each test.
 */
public final class ReadmeTests {
    private static final Pattern ASKS = Pattern.compile("(?:int (\\w+) = )?(.*\\));\\s+// ([^:]*)(?::.*)?");
    private static final String THROWS = "throws ";

    private static int wrong;

    private static void need(boolean fine, String what) {
        if (!fine) {
            wrong++;
            System.out.println(what);
        }
    }

    /** The blocks of Java that stand in a text, each as its lines. */
    private static List<List<String>> blocks(List<String> text) {
        List<List<String>> all = new ArrayList<>();
        List<String> open = null;
        for (String line : text) {
            if (line.equals("```java")) {
                open = new ArrayList<>();
                all.add(open);
            } else if (line.equals("```")) {
                open = null;
            } else if (open != null) {
                open.add(line);
            }
        }
        return all;
    }

    /** A line of an example as the program has it: asked, where an answer stands behind it. */
    private static String asked(String line) {
        if (line.isEmpty() || line.equals("FactLines x = new FactLines();") || line.equals("x.image();")) {
            return line;
        }
        Matcher parts = ASKS.matcher(line);
        need(parts.matches(), "README.md: no answer stands behind " + line);
        if (!parts.matches()) {
            return "";
        }
        String call = parts.group(2);
        String name = "\"" + call.replace("\"", "'") + "\"";
        String answer = parts.group(3).strip();
        if (answer.startsWith(THROWS)) {
            return "fails(\"" + answer.substring(THROWS.length()) + "\", " + name + ", () -> " + call + ");";
        }
        if (parts.group(1) == null) {
            return "due(" + name + ", " + call + ", " + answer + ");";
        }
        return "int " + parts.group(1) + " = " + call + "; due(" + name + ", " + parts.group(1) + ", " + answer + ");";
    }

    private static List<String> program(List<List<String>> blocks) {
        List<String> members = new ArrayList<>();
        List<String> run = new ArrayList<>();
        for (List<String> block : blocks) {
            if (!block.isEmpty() && block.get(0).startsWith("static ")) {
                members.addAll(block);
            } else {
                for (String line : block) run.add(asked(line));
            }
        }
        List<String> all = new ArrayList<>(List.of("public final class ReadmeRun extends Check {"));
        // The README's own way of telling a text, not the one of Check, is what is tried.
        need(members.stream().anyMatch(line -> line.startsWith("static int tell(")), "README.md: tells no text");
        all.addAll(members);
        all.add("private static void run() {");
        all.addAll(run);
        all.add("}");
        all.add("public static void main(String[] args) { go(\"README.md\", ReadmeRun::run); close(); }");
        all.add("}");
        return all;
    }

    private static void testNames(String text) throws IOException {
        for (Method m : FactLines.class.getDeclaredMethods()) {
            boolean isFace = Modifier.isPublic(m.getModifiers());
            need(!isFace || text.contains("`" + m.getName() + "(") || text.contains("`" + m.getName() + "`"),
                    "README.md: " + m.getName() + " isn't named");
        }
        try (var files = Files.list(Path.of("src/test/java"))) {
            for (Path file : files.toList()) {
                String name = file.getFileName().toString().replace(".java", "");
                need(text.contains("`" + name + "`"), "README.md: " + name + " isn't named");
            }
        }
        need(text.contains("\n    .ci/run\n"), "README.md: how to run the tests");
    }

    public static void main(String[] args) throws IOException {
        Path readme = Path.of("README.md");
        testNames(Files.readString(readme));
        List<String> program = program(blocks(Files.readAllLines(readme)));
        if (wrong != 0) {
            System.exit(1);
        }
        if (args.length > 0) {
            Files.createDirectories(Path.of(args[0]));
            Files.write(Path.of(args[0], "ReadmeRun.java"), program);
        } else {
            program.forEach(System.out::println);
        }
    }
}
