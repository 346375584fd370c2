import java.io.IOException;
import java.lang.reflect.Field;
import java.lang.reflect.Method;
import java.lang.reflect.Modifier;
import java.nio.file.DirectoryStream;
import java.nio.file.Files;
import java.nio.file.Path;
import java.util.ArrayList;
import java.util.List;
import java.util.Map;
import java.util.TreeMap;
import java.util.TreeSet;
import java.util.regex.Matcher;
import java.util.regex.Pattern;

/** What README.md says is so: its examples answer as they say, its rows of calls and constants are the document's. */
public final class FigureHeadsReadme {
    private static final Path README = Path.of("README.md"), DOC = Path.of("..", "shared", "DOC.md");
    private static final Pattern MADE = Pattern.compile("FigureHeads x = new FigureHeads\\(\\);");
    private static final Pattern FED = Pattern.compile("for \\(char c : \"(.*)\"\\.toCharArray\\(\\)\\) \\{ x\\.feed\\(c\\); \\}");
    private static final Pattern CALLED = Pattern.compile("x\\.(\\w+)\\((.*)\\); +// (-?\\d+)(?:, ([A-Z]+))?(?:: .*)?");
    private static final Pattern CALL_ROW = Pattern.compile("\\| `(\\w+)\\((.*)\\)` \\| .* \\| (.*) \\|");
    private static final Pattern CONSTANT_ROW = Pattern.compile("\\| `([A-Z]+)` \\| (-\\d+) \\| .* \\|");
    private static final Pattern FACE = Pattern.compile(" {4}public (?:int|long) (\\w+)\\((.*)\\);");
    private static final Pattern PROMISE = Pattern.compile("`(?:int|long) (\\w+)\\(.*?\\)`: (.*)");
    private static final Pattern CONSTANT = Pattern.compile("\\b(BAD|NOT|FULL|NONE|NULL|CAST|INDEX|SIZE)\\b");

    private static int examples = 0;
    private static int wrong = 0;

    private static void due(boolean holds, String what) {
        if (!holds) {
            wrong++;
            System.out.println(what);
        }
    }

    // ---- examples

    private static List<String> exampleLines(List<String> readme) {
        List<String> lines = new ArrayList<>();
        boolean inside = false;
        for (String line : readme) {
            if (line.startsWith("```")) {
                inside = line.equals("```java");
            } else if (inside) {
                lines.add(line);
            }
        }
        return lines;
    }

    /** Lines of other forms are not understood, so that no example goes unlooked at. */
    private static void examplesAnswerSo(List<String> readme) throws ReflectiveOperationException {
        FigureHeads x = null;
        for (String line : exampleLines(readme)) {
            Matcher fed = FED.matcher(line);
            Matcher called = CALLED.matcher(line);
            if (MADE.matcher(line).matches()) {
                x = new FigureHeads();
            } else if (x != null && fed.matches()) {
                for (char c : fed.group(1).toCharArray()) {
                    x.feed(c);
                }
            } else if (x != null && called.matches()) {
                answersSo(x, line, called);
            } else {
                due(false, "not understood: " + line);
            }
        }
        due(examples > 40, "only " + examples + " examples");
    }

    private static void answersSo(FigureHeads x, String line, Matcher called) throws ReflectiveOperationException {
        examples++;
        Method m = methodOf(called.group(1));
        String[] texts = called.group(2).isEmpty() ? new String[0] : called.group(2).split(", ");
        Object[] args = new Object[texts.length];
        for (int k = 0; k < texts.length; k++) {
            args[k] = m.getParameterTypes()[k] == long.class ? (Object) Long.valueOf(texts[k]) : Integer.valueOf(texts[k]);
        }
        long got = ((Number) m.invoke(x, args)).longValue();
        due(got == Long.parseLong(called.group(3)), "the example " + line + " answered " + got);
        if (called.group(4) != null) {
            int told = FigureHeads.class.getField(called.group(4)).getInt(null);
            due(got == told, "the example " + line + " answered " + got + ", which is not " + called.group(4));
        }
    }

    private static Method methodOf(String name) throws NoSuchMethodException {
        for (Method m : FigureHeads.class.getDeclaredMethods()) {
            if (m.getName().equals(name) && Modifier.isPublic(m.getModifiers())) {
                return m;
            }
        }
        throw new NoSuchMethodException(name);
    }

    // ---- rows of calls and of constants

    private static Map<String, String> face(List<String> document) {
        Map<String, String> face = new TreeMap<>();
        for (String line : document) {
            Matcher m = FACE.matcher(line);
            if (m.matches()) {
                face.put(m.group(1), m.group(2).replaceAll("(int|long) ", ""));
            }
        }
        return face;
    }

    private static TreeSet<String> constantsIn(String text) {
        TreeSet<String> names = new TreeSet<>();
        Matcher m = CONSTANT.matcher(text);
        while (m.find()) {
            names.add(m.group(1));
        }
        return names;
    }

    private static Map<String, TreeSet<String>> refusals(List<String> document) {
        Map<String, TreeSet<String>> refusals = new TreeMap<>();
        for (String line : document) {
            Matcher m = PROMISE.matcher(line);
            if (m.matches()) {
                refusals.put(m.group(1), constantsIn(m.group(2)));
            }
        }
        return refusals;
    }

    /** Each call has a row, with the document's arguments and the answers below 0 that its promise names. */
    private static void callsAreTheDocuments(List<String> readme) throws IOException, NoSuchMethodException {
        Map<String, String> told = new TreeMap<>();
        Map<String, TreeSet<String>> refused = new TreeMap<>();
        for (String line : readme) {
            Matcher m = CALL_ROW.matcher(line);
            if (m.matches()) {
                due(told.put(m.group(1), m.group(2)) == null, "two rows of " + m.group(1));
                refused.put(m.group(1), constantsIn(m.group(3)));
                int named = m.group(2).isEmpty() ? 0 : m.group(2).split(", ").length;
                due(methodOf(m.group(1)).getParameterCount() == named, m.group(1) + " takes another number of arguments");
            }
        }
        due(told.size() == 32, "calls told: " + told.size());
        if (!Files.exists(DOC)) {
            System.out.println("there is no " + DOC + " here: rows of calls compared with the class alone");
            return;
        }
        List<String> document = Files.readAllLines(DOC);
        due(told.equals(face(document)), "the calls told are " + told + ", the document's " + face(document));
        due(refused.equals(refusals(document)),
                "the answers below 0 told are " + refused + ", the document's " + refusals(document));
    }

    private static void constantsAreSo(List<String> readme) throws IllegalAccessException {
        Map<String, Integer> told = new TreeMap<>();
        for (String line : readme) {
            Matcher m = CONSTANT_ROW.matcher(line);
            if (m.matches()) {
                told.put(m.group(1), Integer.valueOf(m.group(2)));
            }
        }
        Map<String, Integer> are = new TreeMap<>();
        for (Field f : FigureHeads.class.getFields()) {
            are.put(f.getName(), f.getInt(null));
        }
        due(told.equals(are), "the constants told are " + told + ", they are " + are);
    }

    /** Each test is named, and what is named is there. */
    private static void testsAreNamed(List<String> readme) throws IOException {
        TreeSet<String> named = new TreeSet<>();
        Matcher m = Pattern.compile("`(FigureHeads\\w+)`").matcher(String.join("\n", readme));
        while (m.find()) {
            named.add(m.group(1));
        }
        TreeSet<String> are = new TreeSet<>();
        try (DirectoryStream<Path> files = Files.newDirectoryStream(Path.of("src", "test", "java"), "*.java")) {
            for (Path file : files) {
                are.add(file.getFileName().toString().replace(".java", ""));
            }
        }
        due(named.equals(are), "the tests named are " + named + ", there are " + are);
    }

    public static void main(String[] args) throws IOException, ReflectiveOperationException {
        List<String> readme = Files.readAllLines(README);
        examplesAnswerSo(readme);
        callsAreTheDocuments(readme);
        constantsAreSo(readme);
        testsAreNamed(readme);
        System.out.println(examples + " examples, " + wrong + " things not so");
        if (wrong != 0) {
            System.exit(1);
        }
    }
}
