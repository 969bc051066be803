import java.io.File;
import java.io.IOException;
import java.net.URL;
import java.net.URLClassLoader;
import java.nio.file.Files;
import java.nio.file.Path;
import java.util.ArrayList;
import java.util.List;
import java.util.TreeSet;
import java.util.regex.Matcher;
import java.util.regex.Pattern;
import javax.tools.JavaCompiler;
import javax.tools.ToolProvider;

/**
 * Every call that README.md shows answers what README.md says. Its Java is compiled as it stands there, but that each
 * line "call; // answer" becomes a look at the answer; a call without an answer told is wrong itself.
 */
public final class ReadmeTest {
    private static final Path README = Path.of("README.md");
    private static final Path TESTS = Path.of("src/test/java");
    private static final Pattern BLOCK = Pattern.compile("(?s)```java\n(.*?)```");
    private static final Pattern NEW_OBJECT = Pattern.compile("OneStair x = new OneStair\\(\\);");
    private static final Pattern CALL = Pattern.compile("((?:x\\.\\w+|\\w+)\\(.*\\)); *// (-?\\d+)(?:: .*)?");
    private static final Pattern CODE_MARK = Pattern.compile("-(\\d+), `OneStair\\.(\\w+)`");
    private static final int CALLS_AT_LEAST = 40, MOST_CALLS = 512;

    private static int shown = 0;
    private static int wrong = 0;

    /** Public, for README.md's lines are run in a class of their own, which tells here what they answered. */
    public static void due(String call, int got, int want) {
        shown++;
        check(got == want, call + " answered " + got + ", README.md says " + want);
    }

    private static void check(boolean right, String told) {
        if (!right) {
            wrong++;
            System.out.println(told);
        }
    }

    public static void main(String[] args) throws IOException, ReflectiveOperationException {
        String readme = Files.readString(README);
        run(programOf(readme));
        check(shown >= CALLS_AT_LEAST && shown <= MOST_CALLS, "README.md shows " + shown + " calls");
        checkConstants(readme);
        checkTestsNamed(readme);
        System.out.println(wrong == 0 ? shown + " calls answer what README.md says" : wrong + " things are wrong");
        if (wrong != 0) {
            System.exit(1);
        }
    }

    private static String programOf(String readme) {
        StringBuilder methods = new StringBuilder();
        StringBuilder main = new StringBuilder();
        Matcher m = BLOCK.matcher(readme);
        while (m.find()) {
            String block = m.group(1);
            if (block.startsWith("static ")) {
                methods.append(block);
            } else {
                main.append("{\n").append(looksAt(block)).append("}\n");
            }
        }
        return "public final class Shown {\n" + methods + "public static void main(String[] args) {\n" + main + "}\n}\n";
    }

    private static String looksAt(String block) {
        StringBuilder looks = new StringBuilder();
        for (String line : block.split("\n")) {
            Matcher call = CALL.matcher(line);
            if (call.matches()) {
                String told = call.group(1).replace("\\", "\\\\").replace("\"", "\\\"");
                looks.append("ReadmeTest.due(\"" + told + "\", " + call.group(1) + ", " + call.group(2) + ");\n");
            } else {
                check(NEW_OBJECT.matcher(line).matches(), "README.md tells no answer: " + line);
                looks.append(line).append('\n');
            }
        }
        return looks.toString();
    }

    private static void run(String program) throws IOException, ReflectiveOperationException {
        Path room = Files.createTempDirectory("readme");
        Path source = room.resolve("Shown.java");
        try {
            Files.writeString(source, program);
            JavaCompiler javac = ToolProvider.getSystemJavaCompiler();
            int refused = javac.run(null, null, null, "-cp", System.getProperty("java.class.path"), "-d",
                room.toString(), source.toString());
            check(refused == 0, "README.md's Java is not taken by javac");
            if (refused == 0) {
                try (URLClassLoader loader = new URLClassLoader(new URL[] {room.toUri().toURL()})) {
                    loader.loadClass("Shown").getMethod("main", String[].class).invoke(null, (Object) new String[0]);
                }
            }
        } finally {
            for (File f : room.toFile().listFiles()) {
                Files.delete(f.toPath());
            }
            Files.delete(room);
        }
    }

    private static void checkConstants(String readme) throws ReflectiveOperationException {
        List<String> named = new ArrayList<>();
        Matcher m = CODE_MARK.matcher(readme);
        while (m.find()) {
            named.add(m.group(2));
            int is = OneStair.class.getField(m.group(2)).getInt(null);
            check(is == -Integer.parseInt(m.group(1)), m.group(2) + " is " + is + ", README.md says -" + m.group(1));
        }
        check(named.equals(List.of("BAD", "FULL", "NONE", "STATE")), "README.md names the constants " + named);
    }

    /** A test that README.md does not name, or that it names and is not there. */
    private static void checkTestsNamed(String readme) {
        TreeSet<String> there = new TreeSet<>();
        for (String file : TESTS.toFile().list()) {
            there.add(file.replace(".java", ""));
        }
        TreeSet<String> named = new TreeSet<>();
        Matcher m = Pattern.compile("`(\\w+Test)`").matcher(readme);
        while (m.find()) {
            named.add(m.group(1));
        }
        check(named.equals(there), "README.md names the tests " + named + ", there are " + there);
    }
}
