import java.io.IOException;
import java.lang.reflect.Constructor;
import java.lang.reflect.Field;
import java.lang.reflect.Method;
import java.lang.reflect.Modifier;
import java.nio.file.Files;
import java.nio.file.Path;
import java.util.Set;
import java.util.TreeSet;
import java.util.regex.Matcher;
import java.util.regex.Pattern;

/** What of ../shared/LANGUAGE.md can be seen without reading: the face, words, sizes, and the room. */
public final class LanguageTest {
    private static final Path SOURCE = Path.of("src/main/java/UnitTurns.java");
    private static final Path DOCUMENT = Path.of("../shared/DOC.md");
    private static int wrong = 0;

    public static void main(String[] args) throws IOException {
        String source = Files.readString(SOURCE);
        checkFace(Files.readString(DOCUMENT));
        checkClasses();
        checkWords(source);
        checkMethods(source);
        checkRoom();
        System.out.println(wrong == 0 ? "the language is kept" : wrong + " rules are broken");
        if (wrong != 0) {
            System.exit(1);
        }
    }

    private static void demand(boolean kept, String rule) {
        if (!kept) {
            wrong++;
            System.out.println("broken: " + rule);
        }
    }

    private static void checkFace(String document) {
        Set<String> due = new TreeSet<>();
        Matcher m = Pattern.compile("    public (int|long) (\\w+)\\(([^)]*)\\);").matcher(document);
        while (m.find()) {
            int parameters = m.group(3).isEmpty() ? 0 : m.group(3).split(",").length;
            due.add(m.group(1) + " " + m.group(2) + " " + parameters);
        }
        demand(due.size() == 21, "21 methods stand in the document");
        Set<String> found = new TreeSet<>();
        for (Method method : UnitTurns.class.getDeclaredMethods()) {
            if (!Modifier.isPrivate(method.getModifiers())) {
                found.add(method.getReturnType() + " " + method.getName() + " " + method.getParameterCount());
                for (Class<?> type : method.getParameterTypes()) {
                    demand(type == int.class, "parameters are int: " + method.getName());
                }
            }
        }
        demand(found.equals(due), "rule 1: the methods are the document's: " + found);
        Set<String> constants = new TreeSet<>();
        for (Field field : UnitTurns.class.getDeclaredFields()) {
            if (!Modifier.isPrivate(field.getModifiers())) {
                constants.add(field.getName());
            }
        }
        demand(constants.equals(Set.of("NONE", "BAD", "NO", "FULL", "MUCH")), "rule 1: the constants: " + constants);
        Constructor<?>[] made = UnitTurns.class.getDeclaredConstructors();
        demand(made.length == 1 && made[0].getParameterCount() == 0 && Modifier.isPublic(made[0].getModifiers()),
            "rule 1: the constructor");
        demand(Modifier.isFinal(UnitTurns.class.getModifiers()), "rule 1: final");
    }

    private static void checkClasses() {
        Set<String> face = new TreeSet<>();
        for (Method method : UnitTurns.class.getDeclaredMethods()) {
            if (Modifier.isPublic(method.getModifiers())) {
                face.add(method.getName());
            }
        }
        Class<?>[] inside = UnitTurns.class.getDeclaredClasses();
        demand(inside.length <= 11, "rule 11: some twelve classes");
        checkMembers(UnitTurns.class, face);
        for (Class<?> c : inside) {
            demand(Modifier.isStatic(c.getModifiers()) && !Modifier.isPublic(c.getModifiers()), "rule 2: " + c);
            checkMembers(c, face);
        }
    }

    private static void checkMembers(Class<?> c, Set<String> face) {
        int fields = 0;
        for (Field field : c.getDeclaredFields()) {
            boolean fixed = Modifier.isStatic(field.getModifiers());
            demand(!fixed || Modifier.isFinal(field.getModifiers()), "rule 5: " + field);
            fields += fixed ? 0 : 1;
        }
        demand(fields <= 20, "rule 11: fields of " + c);
        for (Method method : c.getDeclaredMethods()) {
            demand(method.getParameterCount() <= 7, "rule 11: parameters of " + method);
            demand(Modifier.isPublic(method.getModifiers()) || !face.contains(method.getName()), "rule 1: " + method);
        }
    }

    private static void checkWords(String source) {
        String code = source.replaceAll("(?s)/\\*.*?\\*/", " ").replaceAll("//[^\n]*", " ");
        String[] words = {"throw", "throws", "try", "catch", "finally", "synchronized", "assert", "package", "double",
            "float", "equals", "hashCode", "toString", "native", "volatile", "transient", "Object", "Exact", "protected"};
        for (String word : words) {
            demand(!Pattern.compile("\\b" + word + "\\b").matcher(code).find(), "a word that can't stand: " + word);
        }
        demand(!code.contains("->") && !code.contains("::"), "rule 2: no lambda, no method reference");
        Matcher imports = Pattern.compile("import ([^;]+);").matcher(code);
        while (imports.find()) {
            demand(imports.group(1).matches("java\\.util\\.(Arrays|ArrayList|List|Iterator)"),
                "rule 4: import " + imports.group(1));
        }
        Matcher calls = Pattern.compile("\\b(System|Math|Integer|Arrays|Long)\\.(\\w+)").matcher(code);
        Set<String> library = Set.of("System.arraycopy", "Math.max", "Math.min", "Integer.bitCount", "Arrays.fill");
        while (calls.find()) {
            demand(library.contains(calls.group()), "rule 4: " + calls.group());
        }
        for (int n = 0; n < source.length(); n++) {
            demand(source.charAt(n) < 127, "signs are ASCII");
        }
    }

    /** A method is what stands from a line with a brace, eight or four blanks in, to its end. */
    private static void checkMethods(String source) {
        String[] lines = source.split("\n");
        int methods = 0;
        for (int n = 0; n < lines.length; n++) {
            Matcher head = Pattern.compile("( {4}| {8})(\\S.*\\b|)(\\w+)\\(.*\\) \\{").matcher(lines[n]);
            if (head.matches()) {
                StringBuilder body = new StringBuilder();
                int last = n + 1;
                while (last < lines.length && !lines[last].equals(head.group(1) + "}")) {
                    body.append(lines[last]).append('\n');
                    last++;
                }
                methods++;
                demand(last - n < 60, "rule 11: a long method: " + head.group(3));
                checkOwnCalls(head.group(2), head.group(3), body.toString());
            }
        }
        demand(methods > 100, "the methods are found: " + methods);
    }

    /** Only a private static method may call itself; private ones that are not may call one another. */
    private static void checkOwnCalls(String before, String name, String body) {
        boolean callsItself = Pattern.compile("(?<![.\\w])" + name + "\\(").matcher(body).find();
        demand(!callsItself || before.startsWith("private static"), "rule 8: a method calls itself: " + name);
    }

    /** What 512 dear calls make, in bytes: nothing is to be made behind the constructor. */
    private static void checkRoom() {
        com.sun.management.ThreadMXBean bean =
            (com.sun.management.ThreadMXBean) java.lang.management.ManagementFactory.getThreadMXBean();
        long id = Thread.currentThread().getId();
        dearCalls(new UnitTurns());
        long start = bean.getThreadAllocatedBytes(id);
        UnitTurns x = new UnitTurns();
        long made = bean.getThreadAllocatedBytes(id);
        dearCalls(x);
        long end = bean.getThreadAllocatedBytes(id);
        demand(made - start < 60000, "the room of an object: " + (made - start) + " bytes");
        demand(end - made < 4000, "the room of 512 calls: " + (end - made) + " bytes");
    }

    private static void dearCalls(UnitTurns x) {
        x.kind(8, 0, 8, 5);
        x.kind(2, 1, 11, 4);
        x.kind(4, 0, 0, 3);
        x.kind(15, 1, 2, 2);
        x.kind(8, 3, 12, 1);
        for (int i = 0; i < 6; i++) {
            x.instruction(i % 5);
        }
        for (int n = 0; n < 125; n++) {
            x.sets(0, 1 + n % 3);
            x.digest();
            x.needs(n % 6, (n + 1) % 6, n % 3);
            x.best(5);
        }
    }
}
