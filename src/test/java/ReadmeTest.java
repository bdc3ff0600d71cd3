import java.io.File;
import java.io.IOException;
import java.lang.reflect.Method;
import java.lang.reflect.Modifier;
import java.net.URL;
import java.net.URLClassLoader;
import java.nio.file.Files;
import java.nio.file.Path;
import java.util.ArrayList;
import java.util.List;
import java.util.Set;
import java.util.TreeSet;
import java.util.regex.Matcher;
import java.util.regex.Pattern;
import javax.tools.JavaCompiler;
import javax.tools.ToolProvider;

/** What README.md shows: its Java blocks are taken as they stand there, run, and held against their remarks. */
public final class ReadmeTest {
    private static final Pattern ANSWERED =
        Pattern.compile("(?:int (\\w+) = )?(\\S.*);\\s+// (-?\\d+|true|false)(?:: \\S.*)?");
    private static final String MAKES = "WindingSquare square = new WindingSquare();";
    private static final Due due = new Due();

    private final StringBuilder members = new StringBuilder();
    private final StringBuilder bodies = new StringBuilder();
    private final List<String> calls = new ArrayList<>();
    private final List<String> answers = new ArrayList<>();
    private int blocks;

    public static void main(String[] args) throws Exception {
        List<String> page = Files.readAllLines(Path.of("README.md"));
        ReadmeTest test = new ReadmeTest();
        test.takeBlocks(page);
        test.compare(test.run());
        test.eachCallIsShown();
        eachTestIsNamed(page);
        due.end();
    }

    private void takeBlocks(List<String> page) {
        for (int i = 0; i < page.size(); i++) {
            if (!page.get(i).startsWith("```")) {
                continue;
            }
            due.is("README.md line " + (i + 1) + ": a block of Java", page.get(i).equals("```java"), true);
            int from = i + 1;
            int behind = from;
            while (behind < page.size() && !page.get(behind).startsWith("```")) {
                behind++;
            }
            takeBlock(page, from, behind);
            i = behind;
        }
        due.is("some blocks", blocks > 5, true);
    }

    private void takeBlock(List<String> page, int from, int behind) {
        if (page.get(from).startsWith("static ")) {
            members.append(String.join("\n", page.subList(from, behind))).append('\n');
            return;
        }
        due.is("README.md line " + (from + 1) + ": begins with a new object", page.get(from).equals(MAKES), true);
        blocks++;
        bodies.append("static void block").append(blocks).append("(java.util.List<String> got) {\n").append(MAKES).append('\n');
        for (int i = from + 1; i < behind; i++) {
            takeLine(page.get(i), "README.md line " + (i + 1) + ": ");
        }
        bodies.append("}\n");
    }

    private void takeLine(String line, String where) {
        Matcher m = ANSWERED.matcher(line);
        if (!m.matches()) {
            due.is(where + "a call with its answer: " + line, false, true);
            return;
        }
        String asked = m.group(2);
        if (m.group(1) != null) {
            bodies.append("int ").append(m.group(1)).append(" = ").append(asked).append(";\n");
            asked = m.group(1);
        }
        bodies.append("got.add(String.valueOf(").append(asked).append("));\n");
        calls.add(where + m.group(2));
        answers.add(m.group(3));
    }

    private List<String> run() throws Exception {
        JavaCompiler javac = ToolProvider.getSystemJavaCompiler();
        due.is("a compiler", javac != null, true);
        Path dir = Files.createTempDirectory("readme");
        try {
            Path file = dir.resolve("Shown.java");
            Files.writeString(file, "public final class Shown {\n" + members + bodies + main() + "}\n");
            String path = System.getProperty("java.class.path");
            int code = javac.run(null, System.out, System.out, "-cp", path, "-d", dir.toString(), file.toString());
            due.is("the blocks compile", code, 0);
            return code == 0 ? ask(dir) : new ArrayList<>();
        } finally {
            clear(dir);
        }
    }

    private String main() {
        StringBuilder b = new StringBuilder("public static void all(java.util.List<String> got) {\n");
        for (int i = 1; i <= blocks; i++) {
            b.append("block").append(i).append("(got);\n");
        }
        return b.append("}\n").toString();
    }

    private static List<String> ask(Path dir) throws Exception {
        List<String> got = new ArrayList<>();
        try (URLClassLoader loader = new URLClassLoader(new URL[] {dir.toUri().toURL()})) {
            loader.loadClass("Shown").getMethod("all", List.class).invoke(null, got);
        }
        return got;
    }

    private static void clear(Path dir) throws IOException {
        File[] files = dir.toFile().listFiles();
        for (File f : files == null ? new File[0] : files) {
            Files.delete(f.toPath());
        }
        Files.delete(dir);
    }

    private void compare(List<String> got) {
        due.is("how many answers", got.size(), answers.size());
        for (int i = 0; i < Math.min(got.size(), answers.size()); i++) {
            String said = calls.get(i) + " is " + got.get(i) + ", the page says " + answers.get(i);
            due.is(said, got.get(i).equals(answers.get(i)), true);
        }
    }

    private void eachCallIsShown() {
        String shown = String.join("\n", calls);
        for (Method m : WindingSquare.class.getDeclaredMethods()) {
            if (Modifier.isPublic(m.getModifiers())) {
                due.is("a block shows " + m.getName(), shown.contains("square." + m.getName() + "("), true);
            }
        }
    }

    private static void eachTestIsNamed(List<String> page) {
        Set<String> named = new TreeSet<>();
        for (String line : page) {
            Matcher m = Pattern.compile("\\| (\\w+Test) \\|.*").matcher(line);
            if (m.matches()) {
                named.add(m.group(1));
            }
        }
        Set<String> there = new TreeSet<>();
        String[] files = new File("src/test/java").list();
        for (String f : files == null ? new String[0] : files) {
            if (f.endsWith(".java")) {
                there.add(f.substring(0, f.length() - 5));
            }
        }
        due.same("the tests named", named.toString(), there.toString());
    }
}
