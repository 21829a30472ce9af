import java.io.IOException;
import java.lang.management.ManagementFactory;
import java.lang.reflect.Constructor;
import java.lang.reflect.Field;
import java.lang.reflect.Method;
import java.lang.reflect.Modifier;
import java.nio.file.Files;
import java.nio.file.Path;
import java.util.Arrays;
import java.util.Set;
import java.util.TreeSet;
import java.util.regex.Matcher;
import java.util.regex.Pattern;

/** The face of the class, the rules of LANGUAGE.md that can be looked up, and what calls allocate. */
public final class RulesTest {
    private static final String[] FACE = {
        "int shaft(int,int)", "int sets(int,int,int)", "int pipe(int,int,int,int)", "int drops(int)",
        "int of(int,int)", "int about(int,int)", "long comes(int,int,int)", "int times(int,int,int,int)",
        "int leaves(int,int)", "int sight(int,int,int)", "int forget()", "int fits(int,int)", "int when(int)",
        "int suspects()", "int next(int)", "int alike(int)", "int sensors(int)", "int type(int)", "int clear()",
        "int reads()", "int back()", "int told(int)", "long digest()"};
    private static final String[] FORBIDDEN = {
        "throw", "throws", "try", "catch", "finally", "synchronized", "assert", "volatile", "transient", "Exact",
        "Object", "hashCode", "toString", "random", "Random", "nanoTime", "currentTimeMillis", "Thread", "var",
        "goto", "native", "package", "protected"};
    private static final Set<String> LIBRARY = Set.of(
        "Integer.bitCount(", "Long.bitCount(", "Long.numberOfTrailingZeros(", "Long.numberOfLeadingZeros(", "Math.max(",
        "Math.min(", "System.arraycopy(", "Arrays.fill(");

    private static int wrong = 0;

    public static void main(String[] args) throws IOException {
        face();
        nested();
        source(Files.readString(Path.of("src/main/java/ShaftHunt.java")));
        allocation();
        System.out.println("rules: " + wrong + " wrong");
        if (wrong != 0) {
            System.exit(1);
        }
    }

    private static void must(boolean holds, String rule) {
        if (!holds) {
            wrong++;
            System.out.println("does not hold: " + rule);
        }
    }

    private static String told(Method method) {
        StringBuilder types = new StringBuilder();
        for (Class<?> type : method.getParameterTypes()) {
            types.append(types.length() == 0 ? "" : ",").append(type.getSimpleName());
        }
        return method.getReturnType().getSimpleName() + " " + method.getName() + "(" + types + ")";
    }

    private static void face() {
        int modifiers = ShaftHunt.class.getModifiers();
        must(Modifier.isPublic(modifiers) && Modifier.isFinal(modifiers), "public and final");
        Set<String> found = new TreeSet<>();
        for (Method method : ShaftHunt.class.getDeclaredMethods()) {
            if (!Modifier.isPrivate(method.getModifiers())) {
                must(Modifier.isPublic(method.getModifiers()), "public or private: " + told(method));
                found.add(told(method));
            }
        }
        must(found.equals(new TreeSet<>(Arrays.asList(FACE))), "the methods of the document: " + found);
        Set<String> constants = new TreeSet<>();
        for (Field field : ShaftHunt.class.getDeclaredFields()) {
            if (!Modifier.isPrivate(field.getModifiers())) {
                constants.add(field.getName());
            }
        }
        must(constants.equals(Set.of("NONE", "BAD", "NO", "FULL")), "the constants of the document: " + constants);
        must(ShaftHunt.class.getDeclaredConstructors().length == 1
                && ShaftHunt.class.getConstructors().length == 1
                && ShaftHunt.class.getConstructors()[0].getParameterCount() == 0, "one public constructor");
    }

    private static void nested() {
        Set<String> names = new TreeSet<>();
        for (String method : FACE) {
            names.add(method.replaceAll("^\\w+ |\\(.*", ""));
        }
        Class<?>[] classes = ShaftHunt.class.getDeclaredClasses();
        must(classes.length <= 11, "at most some twelve classes");
        for (Class<?> inside : classes) {
            must(Modifier.isStatic(inside.getModifiers()), "static: " + inside);
            must(!Modifier.isPublic(inside.getModifiers()), "not public: " + inside);
            for (Method method : inside.getDeclaredMethods()) {
                must(!names.contains(method.getName()), "a name of the face: " + method);
                must(method.getParameterCount() <= 7, "at most seven parameters: " + method);
            }
            must(fields(inside) <= 20, "at most some twenty fields: " + inside);
            for (Constructor<?> constructor : inside.getDeclaredConstructors()) {
                must(constructor.getParameterCount() == 0, "a constructor is handed no part of another: " + inside);
            }
        }
        for (Method method : ShaftHunt.class.getDeclaredMethods()) {
            must(Modifier.isPublic(method.getModifiers()) || !names.contains(method.getName()),
                    "a private method with a name of the face: " + method);
        }
        must(fields(ShaftHunt.class) <= 20, "at most some twenty fields");
    }

    private static long fields(Class<?> type) {
        return Arrays.stream(type.getDeclaredFields()).filter(f -> !Modifier.isStatic(f.getModifiers())).count();
    }

    private static void source(String text) {
        must(text.chars().allMatch(c -> c == '\n' || c >= 32 && c < 127), "plain signs alone");
        String code = text.replaceAll("(?s)/\\*.*?\\*/", " ").replaceAll("//[^\n]*", " ");
        for (String word : FORBIDDEN) {
            must(!Pattern.compile("\\b" + word + "\\b").matcher(code).find(), "without " + word);
        }
        must(!code.contains("->") && !code.contains("::"), "without lambdas and method references");
        must(!code.contains("\""), "without texts");
        Matcher imports = Pattern.compile("import ([^;]*);").matcher(code);
        while (imports.find()) {
            must(imports.group(1).equals("java.util.Arrays"), "imports " + imports.group(1));
        }
        library(code);
        lengths(text.split("\n"));
    }

    /** Of the library only functions that LANGUAGE.md names: its constants are not among them. */
    private static void library(String code) {
        String program = code.replaceAll("import [^;]*;", " ");
        Matcher uses = Pattern.compile("\\b[A-Z][A-Za-z]*[a-z][A-Za-z]*\\.\\w+\\(?").matcher(program);
        while (uses.find()) {
            must(LIBRARY.contains(uses.group()), "of the library only what is listed: " + uses.group());
        }
    }

    /** A method starts with a line that opens a brace behind parameters, and ends with a brace as far in. */
    private static void lengths(String[] lines) {
        for (int i = 0; i < lines.length; i++) {
            Matcher start = Pattern.compile("^( {4}| {8})[a-z].*\\) \\{$").matcher(lines[i]);
            if (!start.find()) {
                continue;
            }
            int end = i;
            while (end < lines.length && !lines[end].equals(start.group(1) + "}")) {
                end++;
            }
            must(end - i < 60, "a short method: " + lines[i].strip());
        }
        for (String line : lines) {
            must(line.length() <= 120, "a short line: " + line);
        }
    }

    /** All calls of a run live in one room: calls make nothing, an object some small rows. */
    private static void allocation() {
        com.sun.management.ThreadMXBean bean = (com.sun.management.ThreadMXBean) ManagementFactory.getThreadMXBean();
        ShaftHunt x = new ShaftHunt();
        useAll(x);
        long start = bean.getCurrentThreadAllocatedBytes();
        for (int i = 0; i < 20; i++) {
            useAll(x);
        }
        long used = bean.getCurrentThreadAllocatedBytes() - start;
        must(used < 20_000, "calls make no objects, but made bytes: " + used);
        start = bean.getCurrentThreadAllocatedBytes();
        new ShaftHunt();
        used = bean.getCurrentThreadAllocatedBytes() - start;
        must(used < 20_000, "an object is small, but has bytes: " + used);
    }

    private static void useAll(ShaftHunt x) {
        x.shaft(1, 3);
        x.shaft(4, 12);
        x.sets(0, 1, 4);
        x.pipe(0, 1, 0, 3);
        x.sight(1, 1, 9);
        x.sight(0, 1, 4);
        x.of(0, 5);
        x.about(0, 1);
        x.comes(0, 3, 1);
        x.times(0, 3, 1, 2);
        x.leaves(0, 3);
        x.fits(0, 3);
        x.suspects();
        x.alike(1);
        x.clear();
        for (int c : new int[] {'s', '0', ' ', '1', ';', 'x', '0', ';'}) {
            x.type(c);
        }
        x.reads();
        x.digest();
        x.back();
        x.forget();
        x.drops(0);
    }
}
