import java.lang.reflect.Constructor;
import java.lang.reflect.Field;
import java.lang.reflect.Member;
import java.lang.reflect.Method;
import java.lang.reflect.Modifier;
import java.nio.file.Files;
import java.nio.file.Path;
import java.util.Arrays;
import java.util.HashSet;
import java.util.Set;
import java.util.TreeSet;

/** The public face as the document has it, and words in the source that LANGUAGE.md forbids. */
public final class FaceTest {
    private static final String[] FACE = {
        "boolean type(long)", "void wipe()", "void read(int, int)", "void put(int, double, boolean)",
        "void reckon(int, int, int, int)", "void one(int, int, int)", "void cast(int, int, int)", "int compare(int, int)",
        "int kind(int)", "double real(int)", "long exact(int, int)", "int write(int)", "int picture(int)",
        "int letters(int, int)", "int output(int)"
    };
    /** What the methods of FACE declare to throw, in the order of FACE. */
    private static final String[] THROWN = {
        "", "", "Index Argument Unsupported", "Index", "Index State Arithmetic Unsupported", "Index State",
        "Index State Arithmetic Unsupported Argument", "Index State", "", "Index State", "", "Index State Unsupported",
        "Index State Argument Arithmetic Unsupported", "Index State", ""
    };
    private static final String[] FORBIDDEN = {
        "import ", "package ", "Exact(", "Double.", "Float.", "->", "::", "finally", "synchronized", "assert ", "catch ",
        "getMessage", "instanceof", "System.", "toString", "hashCode", "equals", "Math.floor(", "Math.rint(", "Math.pow(",
        "static {", "protected ", "var "
    };

    private static int wrong = 0;

    public static void main(String[] args) throws Exception {
        face();
        privateNames();
        source();
        System.out.println(wrong == 0 ? "face: all as due" : "face: " + wrong + " wrong");
        if (wrong != 0) {
            System.exit(1);
        }
    }

    private static void say(boolean held, String what) {
        if (!held) {
            wrong++;
            System.out.println(what);
        }
    }

    private static void face() {
        Class<?> c = NumberForge.class;
        say(Modifier.isPublic(c.getModifiers()) && Modifier.isFinal(c.getModifiers()), "the class is public and final");
        Set<String> found = new TreeSet<>();
        Set<String> due = new TreeSet<>();
        for (int i = 0; i < FACE.length; i++) {
            due.add(FACE[i] + " " + THROWN[i]);
        }
        for (Method m : c.getDeclaredMethods()) {
            if (isSeen(m)) {
                String parameters = Arrays.toString(m.getParameterTypes());
                found.add(m.getReturnType() + " " + m.getName() + "(" + parameters.substring(1, parameters.length() - 1) + ") "
                    + thrown(m));
            }
        }
        say(found.equals(due), "the methods are " + found);
        for (Field f : c.getDeclaredFields()) {
            say(!isSeen(f) || f.getName().equals("NONE") && f.getType() == int.class, "the field " + f);
            say(!Modifier.isStatic(f.getModifiers()) || Modifier.isFinal(f.getModifiers()), "static and not final: " + f);
        }
        Constructor<?>[] all = c.getDeclaredConstructors();
        say(all.length == 1 && all[0].getParameterCount() == 0 && Modifier.isPublic(all[0].getModifiers()), "the constructor");
    }

    /** The first words of the names of the exceptions that a method declares. */
    private static String thrown(Method m) {
        StringBuilder b = new StringBuilder();
        for (Class<?> e : m.getExceptionTypes()) {
            b.append(b.length() == 0 ? "" : " ")
                .append(e.getSimpleName().replaceAll("^Illegal|OutOfBounds|Operation|Exception$", ""));
        }
        return b.toString();
    }

    private static boolean isSeen(Member m) {
        return !Modifier.isPrivate(m.getModifiers()) && !m.isSynthetic();
    }

    private static void privateNames() {
        Set<String> names = new HashSet<>();
        for (String f : FACE) {
            names.add(f.substring(f.indexOf(' ') + 1, f.indexOf('(')));
        }
        for (Method m : NumberForge.class.getDeclaredMethods()) {
            say(isSeen(m) || !names.contains(m.getName()), "a private method with a public one's name: " + m);
        }
        say(NumberForge.class.getDeclaredClasses().length <= 12, "too many classes inside");
        for (Class<?> inside : NumberForge.class.getDeclaredClasses()) {
            say(inside.getDeclaredFields().length <= 20, "too many fields in " + inside);
            for (Method m : inside.getDeclaredMethods()) {
                say(!names.contains(m.getName()), "a private method with a public one's name: " + m);
            }
        }
    }

    private static void source() throws Exception {
        for (String line : Files.readAllLines(Path.of("src/main/java/NumberForge.java"))) {
            String code = line.trim();
            if (code.startsWith("/*") || code.startsWith("*") || code.startsWith("//")) {
                continue;
            }
            for (String word : FORBIDDEN) {
                say(!code.contains(word), "'" + word + "' stands in: " + code);
            }
        }
    }
}
