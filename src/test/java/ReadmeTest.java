import java.io.IOException;
import java.lang.reflect.InvocationTargetException;
import java.lang.reflect.Method;
import java.lang.reflect.Modifier;
import java.nio.file.Files;
import java.nio.file.Path;
import java.util.regex.Matcher;
import java.util.regex.Pattern;

/** The example of README.md answers what is written behind its calls, and no method is left untold. */
public final class ReadmeTest {
    private static final Pattern ANSWERED = Pattern.compile("yard\\.(\\w+)\\(([^)]*)\\); +// ([-0-9.]+): .+");
    private static final Pattern REFUSED = Pattern.compile("// yard\\.(\\w+)\\(([^)]*)\\) throws (\\w+): .+");
    private static final Pattern EACH_SIGN = Pattern.compile("for \\(char sign : \"([^\"]*)\"\\.toCharArray\\(\\)\\) \\{");

    private ScaffoldYard yard;
    /** The signs of the loop that is open, null outside of one. */
    private String signs;
    private int answers;

    private ReadmeTest() {
    }

    public static void main(String[] args) throws IOException {
        String readme = Files.readString(Path.of("README.md"));
        new ReadmeTest().example(readme);
        everyMethodIsTold(readme);
        Check.finish("ReadmeTest");
    }

    private void example(String readme) {
        Matcher block = Pattern.compile("```java\n(.*?)```", Pattern.DOTALL).matcher(readme);
        if (!block.find()) {
            Check.report("README.md has no example");
            return;
        }
        for (String row : block.group(1).split("\n")) {
            row(row.trim());
        }
        if (answers < 20) {
            Check.report("the example has " + answers + " answers alone");
        }
    }

    private void row(String row) {
        Matcher answered = ANSWERED.matcher(row);
        Matcher refused = REFUSED.matcher(row);
        Matcher eachSign = EACH_SIGN.matcher(row);
        if (row.equals("ScaffoldYard yard = new ScaffoldYard();")) {
            yard = new ScaffoldYard();
        } else if (answered.matches()) {
            compare(row, answered.group(3), answerOf(answered.group(1), answered.group(2)));
        } else if (refused.matches()) {
            long before = yard.digest();
            compare(row, refused.group(3), answerOf(refused.group(1), refused.group(2)));
            Check.same("the digest after " + row, before, yard.digest());
        } else if (eachSign.matches()) {
            signs = eachSign.group(1);
        } else if (signs != null && row.startsWith("yard.append(sign);")) {
            for (char sign : signs.toCharArray()) {
                yard.append(sign);
            }
        } else if (signs != null && row.equals("}")) {
            signs = null;
        } else {
            Check.report("README.md: this row can't be tested: " + row);
        }
    }

    private void compare(String row, String want, String got) {
        answers++;
        if (!want.equals(got)) {
            Check.report("README.md: " + row + " answered " + got);
        }
    }

    private String answerOf(String name, String list) {
        String[] texts = list.isEmpty() ? new String[0] : list.split(", *");
        Class<?>[] types = new Class<?>[texts.length];
        Object[] numbers = new Object[texts.length];
        for (int i = 0; i < texts.length; i++) {
            types[i] = int.class;
            numbers[i] = Integer.valueOf(texts[i]);
        }
        try {
            return String.valueOf(ScaffoldYard.class.getMethod(name, types).invoke(yard, numbers));
        } catch (InvocationTargetException e) {
            return e.getCause().getClass().getSimpleName();
        } catch (ReflectiveOperationException e) {
            return e.toString();
        }
    }

    private static void everyMethodIsTold(String readme) {
        for (Method method : ScaffoldYard.class.getDeclaredMethods()) {
            String row = "| `" + method.getName() + "(";
            if (Modifier.isPublic(method.getModifiers()) && !readme.contains(row)) {
                Check.report("README.md does not tell what " + method.getName() + " does");
            }
        }
    }
}
