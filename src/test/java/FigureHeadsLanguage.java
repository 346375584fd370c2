import java.io.IOException;
import java.lang.reflect.Executable;
import java.lang.reflect.Field;
import java.lang.reflect.Modifier;
import java.nio.file.Files;
import java.nio.file.Path;
import java.util.ArrayList;
import java.util.List;
import java.util.Set;
import java.util.TreeSet;
import java.util.regex.Matcher;
import java.util.regex.Pattern;

/** What can be seen of ../shared/LANGUAGE.md in the source, without its comments and texts, and in the class. */
public final class FigureHeadsLanguage {
    private static final Path SOURCE = Path.of("src", "main", "java", "FigureHeads.java");
    private static final Set<String> LIBRARY = Set.of("Arrays.fill", "Math.abs", "Math.max", "Math.min", "System.arraycopy");
    private static final Set<String> NUMBERS = Set.of("int", "long", "boolean", "char");
    private static final Pattern METHOD = Pattern.compile("( ++)(?!if |for |while |switch |\\|\\||&&|}).*\\) \\{");

    private static int wrong = 0;

    private static void due(boolean holds, String what) {
        if (!holds) {
            wrong++;
            System.out.println(what);
        }
    }

    private static String bare(String source) {
        return source.replaceAll("(?s)/\\*.*?\\*/", "").replaceAll("\"[^\"\n]*\"", "TEXT")
                .replaceAll("'(\\\\.|[^'\n])'", "SIGN").replaceAll("//[^\n]*", "");
    }

    private static List<Class<?>> classes() {
        List<Class<?>> all = new ArrayList<>(List.of(FigureHeads.class));
        all.addAll(List.of(FigureHeads.class.getDeclaredClasses()));
        return all;
    }

    private static void noWord(int rule, String source, String pattern) {
        Matcher m = Pattern.compile(pattern).matcher(source);
        while (m.find()) {
            due(false, "rule " + rule + ": " + m.group());
        }
    }

    private static void forbiddenWords(String bare) {
        noWord(2, bare, "->|::");
        noWord(2, bare, "new \\w+\\([^;{}]*\\)\\s*\\{");
        noWord(3, bare, "\\b(?:Object|Map|HashMap|Set|HashSet|Long|Character|Double|Optional|var)\\b(?!\\.)");
        noWord(4, bare, "\\w*Exact\\b");
        noWord(6, bare, "\\b(?:throw|throws|try|catch|finally|synchronized|assert|volatile|transient|native)\\b");
        noWord(9, bare, "\\bwhile \\(true\\)|\\bfor \\([^;]*; *;");
        noWord(13, bare, "\\b(?:Random|Thread|Runtime|nanoTime|currentTimeMillis|getenv|getProperty|File|Files|Socket)\\b");
    }

    /** Rule 4: what is called of a class that is not the source's own. */
    private static void libraryIsTheListed(String source, String bare) {
        due(!source.contains("package "), "a package line");
        Matcher imported = Pattern.compile("(?m)^import (.*);").matcher(bare);
        while (imported.find()) {
            due(imported.group(1).equals("java.util.Arrays"), "rule 4: import " + imported.group(1));
        }
        TreeSet<String> own = new TreeSet<>();
        for (Class<?> c : classes()) {
            own.add(c.getSimpleName());
        }
        Matcher called = Pattern.compile("\\b([A-Z][a-z]\\w*)\\.(\\w+)\\(").matcher(bare);
        while (called.find()) {
            String name = called.group(1) + "." + called.group(2);
            due(own.contains(called.group(1)) || LIBRARY.contains(name), "rule 4: " + name);
        }
    }

    private static void methodsAreShort(String source) {
        String[] lines = source.split("\n");
        for (int k = 0; k < lines.length; k++) {
            Matcher m = METHOD.matcher(lines[k]);
            if (!m.matches() || lines[k].contains(" class ")) {
                continue;
            }
            int end = k;
            while (end < lines.length && !lines[end].equals(m.group(1) + "}")) {
                end++;
            }
            due(end - k < 60, "rule 11: so long: " + lines[k]);
        }
    }

    /** Rules 1, 2, 5, 11, of a class as it is compiled. */
    private static void classKeepsTo(Class<?> c) {
        boolean inside = c != FigureHeads.class;
        due(!inside || Modifier.isStatic(c.getModifiers()), "rule 2: " + c + " is not static");
        due(!inside || !Modifier.isPublic(c.getModifiers()) && !Modifier.isProtected(c.getModifiers()),
                "rule 1: " + c + " can be seen from outside");
        due(!inside || c.getDeclaredClasses().length == 0, "rule 2: a class inside " + c);
        due(c.getSuperclass() == Object.class && c.getInterfaces().length == 0, c + " is under another");
        int fields = 0;
        for (Field f : c.getDeclaredFields()) {
            boolean fixed = Modifier.isStatic(f.getModifiers());
            fields += fixed ? 0 : 1;
            due(!fixed || Modifier.isFinal(f.getModifiers()), "rule 5: " + f);
            String type = f.getType().isArray() ? f.getType().getComponentType().getName() : f.getType().getName();
            due(!fixed || NUMBERS.contains(type) || type.equals("java.lang.String"), "rule 5: " + f);
        }
        due(fields <= 20, "rule 11: " + c + " has " + fields + " fields");
        List<Executable> members = new ArrayList<>(List.of(c.getDeclaredMethods()));
        members.addAll(List.of(c.getDeclaredConstructors()));
        for (Executable m : members) {
            due(m.getParameterCount() <= 7, "rule 11: " + m + " takes too many");
            due(m.getExceptionTypes().length == 0, "rule 6: " + m);
        }
    }

    /** Rule 1: the constants are int, static, final, and nothing else is open, in what stands above the class either. */
    private static void faceIsClosed() {
        for (Field f : FigureHeads.class.getFields()) {
            due(Modifier.isStatic(f.getModifiers()) && Modifier.isFinal(f.getModifiers()) && f.getType() == int.class,
                    "rule 1: " + f);
        }
        due(FigureHeads.class.getFields().length == 8, "rule 1: open fields");
        due(FigureHeads.class.getMethods().length == 32 + Object.class.getMethods().length, "rule 1: open methods");
        due(FigureHeads.class.getClasses().length == 0, "rule 1: open classes");
        due(Modifier.isPublic(FigureHeads.class.getModifiers()), "rule 1: the class is not public");
    }

    public static void main(String[] args) throws IOException {
        String source = Files.readString(SOURCE);
        String bare = bare(source);
        forbiddenWords(bare);
        libraryIsTheListed(source, bare);
        methodsAreShort(source);
        faceIsClosed();
        for (Class<?> c : classes()) {
            classKeepsTo(c);
        }
        due(classes().size() <= 12, "rule 11: so many classes: " + classes().size());
        due(source.chars().allMatch(c -> c == '\n' || c >= 32 && c < 127), "a sign beside 32 .. 126");
        System.out.println(wrong == 0 ? "the class keeps to what can be seen of its rules" : wrong + " things do not hold");
        if (wrong != 0) {
            System.exit(1);
        }
    }
}
