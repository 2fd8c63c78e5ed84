import java.io.IOException;
import java.lang.reflect.Constructor;
import java.lang.reflect.Field;
import java.lang.reflect.Method;
import java.lang.reflect.Modifier;
import java.nio.file.Files;
import java.nio.file.Path;
import java.util.Arrays;
import java.util.Set;
import java.util.TreeSet;
import java.util.regex.Matcher;
import java.util.regex.Pattern;

/** The public face is the document's, and the words of the source are those of LANGUAGE.md. */
public final class FaceTest {
    private static final String I = "IndexOutOfBoundsException";
    private static final String A = "IllegalArgumentException";
    private static final String S = "IllegalStateException";
    private static final String[] FACE = {
        "int buySets(int) " + A + " " + S,
        "int buySpare(int,int) " + I + " " + A + " " + S,
        "int repair(int) " + I + " " + S,
        "int damage(int,int,int) " + I + " " + A + " " + S,
        "int swap(int,int) " + I + " " + S,
        "int hire(int,int) " + I + " " + A + " " + S,
        "int moveOn(int,int) " + I + " " + S,
        "int bring(int) " + I + " " + S,
        "int bringShort(int,int,int) " + I + " " + A + " " + S,
        "int pay(int,int) " + I + " " + A + " " + S,
        "int pass(int) " + A + " " + S,
        "int set(int,int) " + I + " " + A,
        "int append(int) " + A + " " + S,
        "int clearBuffer()",
        "int firstError()",
        "int run() " + A,
        "int undo() " + S,
        "int bundle(int,int) " + I + " " + A,
        "int site(int,int) " + I + " " + A,
        "int parts(int,int) " + I + " " + A,
        "int count(int) " + A,
        "int setting(int) " + I,
        "int billIn(int,int) " + I + " " + A,
        "int splitOn(int,int,int) " + I + " " + A,
        "int oldest(int) " + I,
        "int ifRepaired()",
        "double hiredShare()",
        "long digest()"};
    /** What the rules 4 to 10 leave out, as far as a word tells it. */
    private static final String[] FORBIDDEN = {"->", "::", "\\bcatch\\b", "\\btry\\b", "\\bfinally\\b",
        "\\bsynchronized\\b", "\\bassert\\b", "\\bDouble\\b", "\\bFloat\\b", "\\bSystem\\.(?!arraycopy)",
        "\\bRandom\\b", "\\bThread\\b", "Exact\\(", "\"\\s*\\+", "\\+\\s*\"", "\\bpackage\\b", "\\bstatic \\{",
        "\\bfloat\\b", "\\bObject\\b", "\\bvar\\b"};

    public static void main(String[] args) throws IOException {
        methods();
        othersArePrivate();
        source(Files.readString(Path.of("src/main/java/ScaffoldYard.java")));
        Check.finish("FaceTest");
    }

    private static String signature(Method m) {
        StringBuilder text = new StringBuilder(m.getReturnType() + " " + m.getName() + "(");
        for (Class<?> type : m.getParameterTypes()) {
            text.append(text.charAt(text.length() - 1) == '(' ? "" : ",").append(type);
        }
        text.append(')');
        for (Class<?> type : m.getExceptionTypes()) {
            text.append(' ').append(type.getSimpleName());
        }
        return text.toString();
    }

    private static void methods() {
        Set<String> due = new TreeSet<>(Arrays.asList(FACE));
        Set<String> found = new TreeSet<>();
        Set<String> names = new TreeSet<>();
        for (Method m : ScaffoldYard.class.getDeclaredMethods()) {
            if (Modifier.isPublic(m.getModifiers())) {
                found.add(signature(m));
                names.add(m.getName());
                if (Modifier.isStatic(m.getModifiers())) {
                    Check.report("static: " + m);
                }
            }
        }
        if (!due.equals(found)) {
            Check.report("the methods are " + found + ", due are " + due);
        }
        for (Class<?> inside : ScaffoldYard.class.getDeclaredClasses()) {
            for (Method m : inside.getDeclaredMethods()) {
                noPublicName(names, m);
            }
        }
        for (Method m : ScaffoldYard.class.getDeclaredMethods()) {
            if (!Modifier.isPublic(m.getModifiers())) {
                noPublicName(names, m);
            }
        }
    }

    private static void noPublicName(Set<String> names, Method m) {
        if (names.contains(m.getName())) {
            Check.report("bears a public name: " + m);
        }
    }

    private static void othersArePrivate() {
        Class<?> yard = ScaffoldYard.class;
        if (!Modifier.isPublic(yard.getModifiers()) || !Modifier.isFinal(yard.getModifiers())) {
            Check.report("the class is not public and final");
        }
        for (Method m : yard.getDeclaredMethods()) {
            if (!m.isSynthetic() && (m.getModifiers() & (Modifier.PUBLIC | Modifier.PRIVATE)) == 0) {
                Check.report("neither public nor private: " + m);
            }
        }
        for (Field f : yard.getDeclaredFields()) {
            boolean fine = f.getName().equals("NONE") ? Modifier.isPublic(f.getModifiers())
                    : Modifier.isPrivate(f.getModifiers());
            if (!f.isSynthetic() && !fine) {
                Check.report("a field of the wrong sight: " + f);
            }
        }
        Constructor<?>[] constructors = yard.getDeclaredConstructors();
        if (constructors.length != 1 || constructors[0].getParameterCount() != 0
                || !Modifier.isPublic(constructors[0].getModifiers())) {
            Check.report("the constructors are " + Arrays.toString(constructors));
        }
    }

    private static void source(String text) {
        for (String word : FORBIDDEN) {
            Matcher matcher = Pattern.compile(word).matcher(text.replaceAll("/\\*[^*]*(\\*[^/][^*]*)*\\*/", ""));
            if (matcher.find()) {
                Check.report("LANGUAGE.md leaves out " + matcher.group());
            }
        }
        Matcher imports = Pattern.compile("import ([^;]*);").matcher(text);
        while (imports.find()) {
            if (!imports.group(1).matches("java\\.util\\.(Arrays|ArrayList|List)")) {
                Check.report("LANGUAGE.md leaves out " + imports.group());
            }
        }
    }
}
