import java.io.IOException;
import java.lang.reflect.Field;
import java.lang.reflect.Method;
import java.lang.reflect.Modifier;
import java.nio.file.Files;
import java.nio.file.Path;
import java.util.Arrays;
import java.util.Set;
import java.util.TreeSet;
import java.util.regex.Matcher;
import java.util.regex.Pattern;

/** The face that the document tells, and those rules of LANGUAGE.md that can be seen in the source or the classes. */
public final class LanguageTest {
    private static final Path SOURCE = Path.of("src/main/java/OneStair.java");
    private static final Path DOCUMENT = Path.of("../shared/DOC.md");
    private static final String[] FORBIDDEN = {"\\bthrow\\b", "\\btry\\b", "\\bcatch\\b", "\\bsynchronized\\b",
        "\\bassert\\b", "->", "::", "\\bpackage\\b", "\\bprotected\\b", "Exact\\(", "static\\s*\\{",
        "\\bimport\\b(?! java\\.util\\.(Arrays|ArrayList|List|Iterator);)", "\\bObject\\b", "\\bSystem\\.(?!arraycopy)",
        "hashCode", "\\bRandom\\b", "\\bnative\\b", "\\bThread\\b", "[^\\x00-\\x7f]"};
    private static int wrong = 0;

    private static void check(boolean right, String told) {
        if (!right) {
            wrong++;
            System.out.println(told);
        }
    }

    public static void main(String[] args) throws IOException {
        String code = withoutCommentsAndTexts(Files.readString(SOURCE));
        for (String word : FORBIDDEN) {
            Matcher m = Pattern.compile(word).matcher(code);
            check(!m.find(), "the source has " + word);
        }
        checkFace(Files.readString(DOCUMENT));
        Class<?>[] inside = OneStair.class.getDeclaredClasses();
        check(inside.length <= 12, "too many classes inside");
        checkClass(OneStair.class);
        for (Class<?> c : inside) {
            check(Modifier.isStatic(c.getModifiers()), c + " is not static");
            checkClass(c);
            checkNames(c);
        }
        checkLengths(code);
        System.out.println(wrong == 0 ? "the rules are kept" : wrong + " rules are broken");
        if (wrong != 0) {
            System.exit(1);
        }
    }

    private static String withoutCommentsAndTexts(String source) {
        return source.replaceAll("(?s)/\\*.*?\\*/", "").replaceAll("//[^\n]*", "").replaceAll("\"[^\"\n]*\"", "\"\"");
    }

    private static void checkFace(String document) {
        Set<String> told = new TreeSet<>();
        Matcher m = Pattern.compile("    public int (\\w+)\\(([^)]*)\\);").matcher(document);
        while (m.find()) {
            String types = m.group(2).replaceAll("(int|long) \\w+", "$1");
            told.add(m.group(1) + "(" + types + ")");
        }
        Set<String> has = new TreeSet<>();
        for (Method method : OneStair.class.getDeclaredMethods()) {
            if (!Modifier.isPrivate(method.getModifiers()) && !method.isSynthetic()) {
                check(method.getReturnType() == int.class, method + " answers another type");
                check(Modifier.isPublic(method.getModifiers()), method + " is seen in the package");
                String types = Arrays.toString(Arrays.stream(method.getParameterTypes()).map(Class::getName).toArray());
                has.add(method.getName() + "(" + types.substring(1, types.length() - 1) + ")");
            }
        }
        check(told.size() == 43, "the document's face was not found");
        check(told.equals(has), "the face is " + has + ", told is " + told);
        check(Modifier.isFinal(OneStair.class.getModifiers()), "the class is not final");
        check(OneStair.class.getDeclaredConstructors().length == 1, "more constructors than one");
        for (Field f : OneStair.class.getDeclaredFields()) {
            boolean constant = Set.of("BAD", "FULL", "NONE", "STATE").contains(f.getName());
            check(constant ? Modifier.isPublic(f.getModifiers()) : Modifier.isPrivate(f.getModifiers()), "seen: " + f);
        }
    }

    private static void checkClass(Class<?> c) {
        int fields = 0;
        for (Field f : c.getDeclaredFields()) {
            fields += Modifier.isStatic(f.getModifiers()) ? 0 : 1;
            check(!Modifier.isStatic(f.getModifiers()) || Modifier.isFinal(f.getModifiers()), f + " is not final");
        }
        check(fields <= 20, c + " has too many fields");
        for (Method m : c.getDeclaredMethods()) {
            check(m.getParameterCount() <= 7, m + " has too many parameters");
        }
    }

    private static void checkNames(Class<?> inside) {
        for (Method m : inside.getDeclaredMethods()) {
            for (Method face : OneStair.class.getMethods()) {
                boolean own = face.getDeclaringClass() == OneStair.class;
                check(!own || !face.getName().equals(m.getName()), m + " bears the name of a public one");
            }
        }
        for (Method m : OneStair.class.getDeclaredMethods()) {
            for (Method face : OneStair.class.getMethods()) {
                boolean hidden = Modifier.isPrivate(m.getModifiers());
                check(!hidden || !face.getName().equals(m.getName()), m + " bears the name of a public one");
            }
        }
    }

    private static void checkLengths(String code) {
        String[] lines = code.split("\n");
        int begin = -1;
        String indent = "";
        for (int i = 0; i < lines.length; i++) {
            Matcher m = Pattern.compile("^( {4}| {8})[\\w\\[\\] ]+\\([^;]*\\) \\{$").matcher(lines[i]);
            if (m.find()) {
                begin = i;
                indent = m.group(1);
            } else if (begin >= 0 && lines[i].equals(indent + "}")) {
                check(i - begin <= 60, "a method is too long: " + lines[begin]);
                begin = -1;
            }
        }
    }
}
