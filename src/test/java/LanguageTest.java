import java.io.IOException;
import java.lang.management.ManagementFactory;
import java.lang.reflect.Constructor;
import java.lang.reflect.Field;
import java.lang.reflect.Method;
import java.lang.reflect.Modifier;
import java.nio.file.Files;
import java.nio.file.Path;
import java.util.ArrayList;
import java.util.Collections;
import java.util.List;
import java.util.Map;
import java.util.Set;
import java.util.TreeMap;
import java.util.TreeSet;
import java.util.regex.Matcher;
import java.util.regex.Pattern;

/** The face of the document, and those rules of LANGUAGE.md that a program can look at. */
public final class LanguageTest {
    private static final List<String> FACE = List.of(
            "int type(long,int)", "int clear()", "int house()", "int person(int,int)", "int thing(int,int)",
            "int lifted(int,int,int)", "int tied(int,int)", "int untied(int)", "int dropped(int)", "int slept()",
            "int fewest(int)", "int can()", "int cheap()", "int leastPeople()", "int lost()", "int due(int)",
            "int moved(int,int)", "int chain(int,int)", "int rate(int,int)", "int keep(int)", "int back(int)",
            "int count(int)", "long trace()");
    private static final List<String> CONSTANTS = List.of("BAD", "STATE", "FULL", "NONE", "NO");

    public static void main(String[] args) throws IOException {
        face();
        Path document = Path.of("../shared/DOC.md");
        if (Files.exists(document)) {
            faceOfTheDocument(Files.readString(document));
        } else {
            System.out.println("no " + document + ": its face was not compared");
        }
        fields();
        String source = Files.readString(Path.of("src/main/java/FiveThings.java"));
        words(source);
        library(source);
        methodLengths(source);
        depth(source);
        madeByCalls();
        Check.end();
    }

    private static void face() {
        int modifiers = FiveThings.class.getModifiers();
        Check.holds("public and final", Modifier.isPublic(modifiers) && Modifier.isFinal(modifiers));
        List<String> open = new ArrayList<>();
        List<String> closed = new ArrayList<>();
        for (Method method : FiveThings.class.getDeclaredMethods()) {
            if (Modifier.isPrivate(method.getModifiers())) {
                closed.add(method.getName());
            } else {
                open.add(signature(method));
            }
        }
        List<String> due = new ArrayList<>(FACE);
        Collections.sort(due);
        Collections.sort(open);
        Check.holds("methods are the document's: " + open, open.equals(due));
        for (String name : closed) {
            Check.holds(name + " is not a public name", FACE.stream().noneMatch(f -> f.contains(" " + name + "(")));
        }
        Constructor<?>[] constructors = FiveThings.class.getDeclaredConstructors();
        Check.holds("one public constructor without arguments", constructors.length == 1
                && Modifier.isPublic(constructors[0].getModifiers()) && constructors[0].getParameterCount() == 0);
    }

    private static void faceOfTheDocument(String document) {
        List<String> told = new ArrayList<>();
        Matcher m = Pattern.compile("    public (int|long) (\\w+)\\(([^)]*)\\);").matcher(document);
        while (m.find()) {
            String types = m.group(3).replaceAll(" \\w+(, |$)", "$1").replace(" ", "");
            told.add(m.group(1) + " " + m.group(2) + "(" + types + ")");
        }
        Check.holds("the document's face is this one: " + told, told.equals(FACE));
    }

    private static String signature(Method method) {
        List<String> types = new ArrayList<>();
        for (Class<?> type : method.getParameterTypes()) {
            types.add(type.getName());
        }
        return method.getReturnType().getName() + " " + method.getName() + "(" + String.join(",", types) + ")";
    }

    private static void fields() {
        List<Class<?>> classes = new ArrayList<>(List.of(FiveThings.class.getDeclaredClasses()));
        for (Class<?> inside : classes) {
            Check.holds(inside + " is static", Modifier.isStatic(inside.getModifiers()));
        }
        classes.add(FiveThings.class);
        Check.holds("twelve classes at most", classes.size() <= 12);
        for (Class<?> each : classes) {
            int own = 0;
            for (Field field : each.getDeclaredFields()) {
                int modifiers = field.getModifiers();
                boolean isStatic = Modifier.isStatic(modifiers);
                own += isStatic ? 0 : 1;
                Check.holds(field + " is final if it is static", !isStatic || Modifier.isFinal(modifiers));
                Check.holds(field + " is private or a constant of the document",
                        Modifier.isPrivate(modifiers) || CONSTANTS.contains(field.getName()));
            }
            Check.holds(each + " has twenty fields at most", own <= 20);
        }
    }

    private static void words(String source) {
        String code = code(source);
        Matcher m = Pattern.compile("\\b(throw|throws|try|catch|finally|synchronized|assert|import|package|native"
                + "|volatile|transient|double|float|System\\.(?!arraycopy)\\w+|Object|Thread|\\w+Exact|instanceof"
                + "|hashCode|toString)\\b|->|::|@|\\bnew \\w+\\([^)]*\\) *\\{").matcher(code);
        while (m.find()) {
            Check.holds("'" + m.group() + "' does not stand in the class", false);
        }
        for (int i = 0; i < source.length(); i++) {
            if (source.charAt(i) > 126) {
                Check.holds("plain signs alone, not " + source.charAt(i), false);
            }
        }
    }

    /** Rule 4: of the library the class uses this little alone, and no class but these and its own. */
    private static void library(String source) {
        String code = code(source);
        Matcher calls = Pattern.compile("\\b[A-Z][a-z]\\w*\\.[a-z]\\w*").matcher(code);
        while (calls.find()) {
            Check.holds("rule 4: " + calls.group(), List.of("Math.min", "Math.max", "Integer.bitCount",
                    "System.arraycopy").contains(calls.group()));
        }
        Matcher classes = Pattern.compile("\\b[A-Z][a-z]\\w*").matcher(code);
        while (classes.find()) {
            Check.holds("rule 3: " + classes.group(), List.of("FiveThings", "Text", "Reader", "House", "Now", "Work",
                    "Ways", "String", "Math", "Integer", "System").contains(classes.group()));
        }
        Check.holds("rule 3: rows of one dimension", !code.replace(" ", "").contains("[]["));
    }

    private static String code(String source) {
        return source.replaceAll("(?s)/\\*.*?\\*/", "").replaceAll("//[^\\n]*", "");
    }

    /** Rules 8 and 11: none comes back to itself, eight are open at most; methods of one name are one here. */
    private static void depth(String source) {
        Map<String, Set<String>> asks = new TreeMap<>();
        Matcher m = Pattern.compile("(?m)^( +)(?:[\\w\\[\\]]+ )*(\\w+)\\([^()]*\\) \\{\\n((?:.*\\n)*?)\\1\\}")
                .matcher(code(source));
        while (m.find()) {
            Matcher call = Pattern.compile("(\\w+)\\(").matcher(m.group(3));
            Set<String> asked = asks.computeIfAbsent(m.group(2), name -> new TreeSet<>());
            while (call.find()) {
                asked.add(call.group(1));
            }
        }
        Check.holds("methods were seen", asks.size() > 60);
        for (String name : asks.keySet()) {
            Check.holds("eight deep at most: " + name, deepest(asks, name, 0) <= 8);
        }
    }

    private static int deepest(Map<String, Set<String>> asks, String name, int above) {
        if (above > 8 || !asks.containsKey(name)) {
            return above;
        }
        int most = above + 1;
        for (String asked : asks.get(name)) {
            most = Math.max(most, deepest(asks, asked, above + 1));
        }
        return most;
    }

    /** By the indentation that the file keeps: a method's end stands under its beginning. */
    private static void methodLengths(String source) {
        String[] lines = source.split("\n");
        Pattern head = Pattern.compile("( +)(?:[\\w\\[\\]]+ )+\\w+\\([^()]*\\) \\{");
        int methods = 0;
        for (int i = 0; i < lines.length; i++) {
            Matcher m = head.matcher(lines[i]);
            if (m.matches() && !lines[i].contains(" else ")) {
                int end = i;
                while (end < lines.length && !lines[end].equals(m.group(1) + "}")) {
                    end++;
                }
                methods++;
                Check.holds("line " + (i + 1) + ": sixty lines at most", end - i < 60);
                Check.holds("line " + (i + 1) + ": seven parameters at most", lines[i].split(",").length <= 7);
            }
        }
        Check.holds("methods were seen", methods > 60);
    }

    /** All rows are made with the object: later calls make nothing. */
    private static void madeByCalls() {
        long made = Long.MAX_VALUE;
        // The first rounds load classes, and asking makes something itself: neither is the calls'.
        for (int round = 0; round < 5; round++) {
            FiveThings x = new FiveThings();
            long first = allocated();
            long before = allocated();
            someCalls(x);
            made = Math.min(made, allocated() - before - (before - first));
        }
        Check.holds("calls make no objects, but " + made + " bytes", made <= 0);
    }

    private static long allocated() {
        return ((com.sun.management.ThreadMXBean) ManagementFactory.getThreadMXBean())
                .getCurrentThreadAllocatedBytes();
    }

    private static void someCalls(FiveThings x) {
        Check.type(x, "person 9 1;person 9 2;person 9 3;thing 0 1;thing 0 2;thing 0 3;thing 1 1;task 0 1;task 1 1;");
        x.house();
        x.keep(0);
        x.tied(0, 3);
        x.lifted(3, 1, 2);
        for (int i = 0; i < 20; i++) {
            x.fewest(i & 1);
            x.can();
            x.cheap();
            x.leastPeople();
            x.lost();
            x.due(i & 1);
            x.moved(0, i & 1);
            x.chain(0, 9);
            x.rate(i % 6, 0);
            x.count(i % 7);
            x.keep(1);
            x.back(i & 1);
            x.slept();
        }
        x.untied(0);
        x.dropped(0);
        x.house();
    }
}
