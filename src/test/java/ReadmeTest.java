import java.io.File;
import java.io.IOException;
import java.lang.reflect.Field;
import java.lang.reflect.Method;
import java.lang.reflect.Modifier;
import java.nio.file.Files;
import java.nio.file.Path;
import java.util.regex.Matcher;
import java.util.regex.Pattern;

/** README.md says how to use the class and how to run its tests: its example answers so, and it names all of them. */
public final class ReadmeTest {
    private static final Pattern ROW = Pattern.compile("x\\.(\\w+)\\(([^)]*)\\); +// (-?\\d+).*");

    public static void main(String[] args) throws Exception {
        String readme = Files.readString(Path.of("README.md"));
        example(readme);
        namesTheFace(readme);
        namesTheTests(readme);
        Check.end();
    }

    /** Each row of the example is a call, with its answer behind it. */
    private static void example(String readme) throws ReflectiveOperationException {
        FiveThings x = new FiveThings();
        int rows = 0;
        for (String line : readme.split("\n")) {
            Matcher row = ROW.matcher(line);
            if (row.matches()) {
                rows++;
                long answer = answer(x, row.group(1), row.group(2));
                Check.same("README: " + line, answer, Long.parseLong(row.group(3)));
            } else {
                Check.holds("README: a call without its answer: " + line, !line.startsWith("x."));
            }
        }
        Check.holds("README has an example", rows > 10);
    }

    private static long answer(FiveThings x, String name, String args) throws ReflectiveOperationException {
        String[] told = args.isEmpty() ? new String[0] : args.split(", ");
        for (Method method : FiveThings.class.getMethods()) {
            if (method.getName().equals(name) && method.getParameterCount() == told.length) {
                Object[] numbers = new Object[told.length];
                for (int i = 0; i < told.length; i++) {
                    boolean isLong = told[i].endsWith("L");
                    long number = Long.decode(isLong ? told[i].substring(0, told[i].length() - 1) : told[i]);
                    if (isLong) {
                        numbers[i] = number;
                    } else {
                        numbers[i] = (int) number;
                    }
                }
                return ((Number) method.invoke(x, numbers)).longValue();
            }
        }
        Check.holds("README: there is no " + name + "(" + args + ")", false);
        return 0;
    }

    private static void namesTheFace(String readme) throws ReflectiveOperationException {
        for (Method method : FiveThings.class.getDeclaredMethods()) {
            if (Modifier.isPublic(method.getModifiers())) {
                Check.holds("README tells of " + method.getName(), readme.contains("`" + method.getName() + "("));
            }
        }
        for (Field field : FiveThings.class.getFields()) {
            String constant = "`" + field.getName() + "` (" + field.getInt(null) + ")";
            Check.holds("README tells of " + constant, readme.contains(constant));
        }
    }

    private static void namesTheTests(String readme) throws IOException {
        Check.holds("README tells of .ci/run", readme.contains("`.ci/run`"));
        File[] files = new File("src/test/java").listFiles();
        Check.holds("there are tests", files != null && files.length > 0);
        for (File file : files == null ? new File[0] : files) {
            String name = file.getName().replace(".java", "");
            if (name.endsWith("Test")) {
                Check.holds("README tells of " + name, readme.contains("| `" + name + "` |"));
            }
        }
    }
}
