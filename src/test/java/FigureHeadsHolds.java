import java.lang.management.ManagementFactory;
import java.lang.reflect.Constructor;
import java.lang.reflect.Field;
import java.lang.reflect.InvocationTargetException;
import java.lang.reflect.Method;
import java.lang.reflect.Modifier;
import java.util.ArrayList;
import java.util.List;
import java.util.Random;
import java.util.TreeSet;

/** What holds for all calls: none throws, whatever its arguments; none makes objects; the face; the last turn. */
public final class FigureHeadsHolds {
    private static final String[] FACE = {
        "int as(int,int)", "int believed(int)", "int copy(int,int,int,int,int)", "int count(int)",
        "int course(int,int,int,int)", "int credit(int)", "int crew(int)", "int decades(int,int,int)",
        "int doubt(int,int)", "int drift(int)", "int drop(int)", "int feed(int)", "int fleet()",
        "int fog(int,int,int,int,int,int,int)", "int hears(int,int)", "int image(int)",
        "int kinds(int,int,int,int,int,int,int)", "int learn(int)", "int links(int)", "int log(int,int,int,int,int,int)",
        "int restore(int)", "int rows(int,int,int,int,int,int,int)", "int say(int,int,int)", "int scrape(int)",
        "int sea(int)", "int sheet(int,int,int)", "int ship(int,int)", "int storm(int,int,int,int,int)",
        "int strikes(int)", "int talk(int,int,int,int)", "int undo()", "long item(int,int,int,long)"};
    private static final String CONSTANTS = "BAD -1 NOT -2 FULL -3 NONE -4 NULL -11 CAST -12 INDEX -13 SIZE -14";
    private static final String BROKEN = "f........o/..##..../o......./........#/......";
    private static final String FLEET = "f......../..##..../o......./......../....#.../......o.;o00e0,g57n5,d30w2,t11s1,m22e3,o56n0;9630";
    private static final int[] EDGES = {
        Integer.MIN_VALUE, Integer.MIN_VALUE + 1, -65536, -9, -2, -1, 0, 1, 2, 3, 4, 5, 6, 7, 8, 9, 10, 11, 12, 13, 16,
        23, 24, 25, 46, 47, 48, 60, 61, 63, 64, 255, 256, 999999, 1000000, 1 << 30, Integer.MAX_VALUE - 1, Integer.MAX_VALUE};

    private static int wrong = 0;

    private static void due(boolean holds, String what) {
        if (!holds) {
            wrong++;
            System.out.println(what);
        }
    }

    private static List<Method> publicMethods() {
        List<Method> methods = new ArrayList<>();
        for (Method m : FigureHeads.class.getDeclaredMethods()) {
            if (Modifier.isPublic(m.getModifiers())) {
                methods.add(m);
            }
        }
        methods.sort((a, b) -> a.getName().compareTo(b.getName()));
        return methods;
    }

    private static String told(Method m) {
        StringBuilder t = new StringBuilder(m.getReturnType() + " " + m.getName() + "(");
        for (Class<?> type : m.getParameterTypes()) {
            t.append(t.charAt(t.length() - 1) == '(' ? "" : ",").append(type);
        }
        return t.append(')').toString();
    }

    private static void faceIsTheDocuments() throws IllegalAccessException {
        TreeSet<String> names = new TreeSet<>();
        TreeSet<String> faces = new TreeSet<>();
        for (Method m : publicMethods()) {
            names.add(m.getName());
            faces.add(told(m));
            due(!Modifier.isStatic(m.getModifiers()), m + " is static");
        }
        due(faces.equals(new TreeSet<>(List.of(FACE))), "the methods are " + faces);
        for (Method m : FigureHeads.class.getDeclaredMethods()) {
            boolean open = Modifier.isPublic(m.getModifiers());
            due(open || Modifier.isPrivate(m.getModifiers()), m + " is neither public nor private");
            due(open || !names.contains(m.getName()), m + " bears the name of a public one");
        }
        StringBuilder constants = new StringBuilder();
        for (Field f : FigureHeads.class.getDeclaredFields()) {
            if (Modifier.isPublic(f.getModifiers())) {
                constants.append(f.getName()).append(' ').append(f.getInt(null)).append(' ');
            } else {
                due(Modifier.isPrivate(f.getModifiers()), f + " is neither public nor private");
            }
        }
        due(constants.toString().trim().equals(CONSTANTS), "the constants are " + constants);
        Constructor<?>[] constructors = FigureHeads.class.getDeclaredConstructors();
        due(constructors.length == 1 && constructors[0].getParameterCount() == 0
                && Modifier.isPublic(constructors[0].getModifiers()), "the constructor is another");
        due(Modifier.isFinal(FigureHeads.class.getModifiers()), "the class is not final");
    }

    private static void feed(FigureHeads x, String text) {
        for (int k = 0; k < text.length(); k++) {
            x.feed(text.charAt(k));
        }
    }

    private static Object[] someArguments(Method m, Random random) {
        Object[] args = new Object[m.getParameterCount()];
        boolean mild = random.nextInt(3) > 0;
        for (int k = 0; k < args.length; k++) {
            int v = mild ? random.nextInt(5) : EDGES[random.nextInt(EDGES.length)];
            if (m.getParameterTypes()[k] == long.class) {
                args[k] = random.nextInt(4) == 0 ? random.nextLong() : (long) v;
            } else {
                args[k] = v;
            }
        }
        return args;
    }

    private static void nothingThrows() throws IllegalAccessException {
        Random random = new Random(7);
        List<Method> methods = publicMethods();
        for (int run = 0; run < 1500; run++) {
            FigureHeads x = new FigureHeads();
            if (run % 4 > 0) {
                feed(x, run % 4 == 1 ? BROKEN : FLEET);
                x.fleet();
            }
            for (int call = 0; call < 350; call++) {
                Method m = methods.get(random.nextInt(methods.size()));
                Object[] args = someArguments(m, random);
                try {
                    m.invoke(x, args);
                } catch (InvocationTargetException e) {
                    due(false, m.getName() + java.util.Arrays.toString(args) + " threw " + e.getCause());
                }
            }
        }
    }

    /** Each argument of each call at each edge, the others in order. */
    private static void noEdgeThrows() throws IllegalAccessException {
        for (Method m : publicMethods()) {
            for (int at = 0; at < m.getParameterCount(); at++) {
                for (int edge : EDGES) {
                    FigureHeads x = new FigureHeads();
                    feed(x, FLEET);
                    x.fleet();
                    for (int sheet = 0; sheet < 4; sheet++) {
                        x.sheet(sheet, 0, 24);
                    }
                    Object[] args = new Object[m.getParameterCount()];
                    for (int k = 0; k < args.length; k++) {
                        int v = k == at ? edge : m.getName().equals("storm") && k == 3 ? 1 : k == 5 || k == 2 ? 1 : 0;
                        args[k] = m.getParameterTypes()[k] == long.class ? (Object) (long) v : (Object) v;
                    }
                    try {
                        m.invoke(x, args);
                    } catch (InvocationTargetException e) {
                        due(false, m.getName() + java.util.Arrays.toString(args) + " threw " + e.getCause());
                    }
                }
            }
        }
    }

    private static long dearCalls(FigureHeads x) {
        long sum = 0;
        feed(x, FLEET);
        sum += x.fleet();
        for (int ship = 0; ship < 6; ship++) {
            sum += x.sheet(0, 0, 24) + x.item(0, 0, 3, 1);
            sum += x.say(ship, 0, 1) + x.storm(ship, 0, 1, 1, 2) + x.drift(ship) + x.learn(3) + x.scrape(ship) + x.undo();
            sum += x.course(ship, 0, 0, -1) + x.course(ship, 0, 0, 3) + x.crew(ship) + x.hears(ship, 3) + x.links(3);
            sum += x.talk(ship, 0, 1, 3) + x.decades(60, 77, 0) + x.image(0) + x.restore(0) + x.strikes(ship);
            sum += x.fog(ship, 0, 0, 6, 0, 3, 0) + x.kinds(ship, 0, 0, 0, 0, 10, 1) + x.log(ship, 0, 0, 0, 0, 24);
            sum += x.rows(ship, 3, 0, 0, 0, 6, 0) + x.rows(ship, 0, 0, 0, 0, 6, 1) + x.copy(0, 0, 0, 1, 9) + x.count(4);
        }
        return sum;
    }

    private static void callsMakeNothing() {
        if (!(ManagementFactory.getThreadMXBean() instanceof com.sun.management.ThreadMXBean threads)) {
            return;
        }
        FigureHeads x = new FigureHeads();
        long sum = dearCalls(x) + threads.getCurrentThreadAllocatedBytes();
        long before = threads.getCurrentThreadAllocatedBytes();
        for (int k = 0; k < 100; k++) {
            sum += dearCalls(x);
        }
        long made = threads.getCurrentThreadAllocatedBytes() - before;
        // The measure itself makes a little.
        due(made < 4096, "calls made " + made + " bytes, sum " + sum);
    }

    private static void answers(String what, long got, long want) {
        due(got == want, what + " answered " + got + ", wanted is " + want);
    }

    /**
     * "FULL: it is TURN 9999" is met only far behind the 512th call, where the document leaves every answer free: this
     * is the project's own wish, so that the words are not left without a test.
     */
    private static void turn9999IsTheLast() {
        FigureHeads x = new FigureHeads();
        feed(x, "f..;o00n5;9000");
        x.fleet();
        for (int turn = 1; turn <= 9998; turn++) {
            x.drift(0);
        }
        answers("turn 9998", x.count(3), 9998);
        answers("the last that is said", x.say(0, 0, 2), 1);
        answers("turn 9999", x.count(3), 9999);
        answers("say", x.say(0, 0, 0), FigureHeads.FULL);
        answers("storm", x.storm(0, 0, 0, 1, 0), FigureHeads.FULL);
        answers("drift", x.drift(0), FigureHeads.FULL);
        answers("say to no ship", x.say(1, 0, 0), FigureHeads.BAD);
        answers("storm of like tellers", x.storm(0, 1, 0, 1, 0), FigureHeads.BAD);
        answers("drift of no ship", x.drift(-1), FigureHeads.BAD);
        answers("what is refused is no turn", x.count(3), 9999);
        answers("scrape is no turn", x.scrape(0), 4);
        answers("learn is no turn", x.learn(1), 1);
        answers("image", x.image(0), 9999);
        answers("learn undone", x.undo(), 23);
        answers("scrape undone", x.undo(), 22);
        answers("say undone", x.undo(), 21);
        answers("turn then", x.count(3), 9998);
        answers("the last storm", x.storm(0, 0, 2, 1, 0), 1);
        answers("drift behind it", x.drift(0), FigureHeads.FULL);
        answers("undone", x.undo(), 21);
        answers("the last drift", x.drift(0), 0);
        answers("drift behind it", x.drift(0), FigureHeads.FULL);
        answers("restore", x.restore(0), 9999);
        answers("drift then", x.drift(0), FigureHeads.FULL);
        feed(x, "f..;o00e0;9000");
        answers("another fleet", x.fleet(), 1);
        answers("drift in turn 0", x.drift(0), 1);
    }

    public static void main(String[] args) throws IllegalAccessException {
        faceIsTheDocuments();
        turn9999IsTheLast();
        nothingThrows();
        noEdgeThrows();
        callsMakeNothing();
        System.out.println(wrong == 0 ? "all holds" : wrong + " things do not hold");
        if (wrong != 0) {
            System.exit(1);
        }
    }
}
