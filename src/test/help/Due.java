import java.util.Arrays;
import java.util.HashSet;
import java.util.Set;
import java.util.function.Supplier;

/**
 * What the tests of bounds share: the sentence of the document that is tested, answers that are due, and all that an
 * object shows, so that a call which must change nothing can be compared with an object on which it was not made.
 * No object is used for more than 512 calls: busy() and shown() together stay below that.
 */
final class Due {
    static final int BAD = -1, NOT = -2, FULL = -3, NONE = -4, NULL = -11, CAST = -12, INDEX = -13, SIZE = -14;
    static final int MIN = Integer.MIN_VALUE, MAX = Integer.MAX_VALUE;

    /**
     * <pre>
     *   . . # . o .      0  1  2  3  4  5     ships: 0 oak 8 e, 1 gilt 0 s worm 1, 2 deaf 13 w,
     *   . . . . . .      8  9 10 11 12 13            3 thomas 17 n worm 2, 4 mirror 10 e
     *   o . # . . .     16 17 18 19 20 21     credit: 6 3 0 5
     * </pre>
     */
    static final String FIVE = "f..#.o./....../o.#...;o10e0,g00s1,d15w0,t21n2,m12e0;6305";

    /** In this fleet rows of one word tell which of 0 .. 7 an item is: see read. */
    static final String READER = "f........;o01e0,o01w0,o04e0,o04w0,o06e0;9999";

    interface Call {
        long on(FigureHeads x);
    }

    interface NumberCall {
        long on(FigureHeads x, int v);
    }

    /** A way to make an object, and what such a one shows. */
    static final class Made {
        final Supplier<FigureHeads> maker;
        private long[] shown = null;

        Made(Supplier<FigureHeads> maker) {
            this.maker = maker;
        }

        long[] shown() {
            if (shown == null) {
                shown = Due.shown(maker.get());
            }
            return shown;
        }
    }

    static final Made BUSY = new Made(Due::busy);
    static final Made IDLE = new Made(Due::idle);
    static final Made NEW = new Made(FigureHeads::new);
    static final Made NO_FLEET = new Made(() -> sheeted(new FigureHeads()));

    private static String sentence = "";
    private static final Set<String> SENTENCES = new HashSet<>();
    private static int calls = 0;
    private static int wrong = 0;

    private Due() {
    }

    static void sentence(int promise, String words) {
        sentence = "promise " + promise + ", \"" + words + "\"";
        SENTENCES.add(sentence);
    }

    static void due(String what, long got, long want) {
        calls++;
        if (got != want) {
            wrong++;
            System.out.println(sentence + ": " + what + " answered " + got + ", due is " + want);
        }
    }

    static void end() {
        System.out.println(SENTENCES.size() + " sentences, " + calls + " answers, " + wrong + " not as due");
        if (wrong != 0) {
            System.exit(1);
        }
    }

    // ---- objects

    static FigureHeads fed(FigureHeads x, String tape) {
        for (int k = 0; k < tape.length(); k++) {
            x.feed(tape.charAt(k));
        }
        return x;
    }

    static FigureHeads with(String tape) {
        FigureHeads x = fed(new FigureHeads(), tape);
        if (x.fleet() < 1) {
            wrong++;
            System.out.println(sentence + ": no fleet: " + tape);
        }
        return x;
    }

    static void write(FigureHeads x, int sheet, int lane, long... items) {
        x.sheet(sheet, lane, items.length);
        for (int i = 0; i < items.length; i++) {
            x.item(sheet, lane, i, items[i]);
        }
    }

    /** Sheets 0 bytes, 1 longs, 2 shorts, 3 nothing. */
    static FigureHeads sheeted(FigureHeads x) {
        write(x, 0, 0, 1, 2, 0, 5);
        write(x, 1, 3, 2, 1, 7, 0, 1);
        write(x, 2, 1, 0, 6, 2);
        return x;
    }

    /** A fleet with five acts, both images and sheets. */
    static FigureHeads idle() {
        FigureHeads x = with(FIVE);
        x.drift(1);
        x.image(0);
        x.say(0, 0, 1);
        x.learn(2);
        x.image(1);
        x.scrape(3);
        x.storm(4, 0, 1, 3, 2);
        return sheeted(x);
    }

    /** Such a one with bytes on the tape. */
    static FigureHeads busy() {
        return fed(idle(), READER.substring(0, 20));
    }

    // ---- what an object shows

    private static final class Row {
        long[] answers = new long[512];
        int length = 0;

        void add(long answer) {
            answers[length++] = answer;
        }
    }

    /** What it shows to calls, some of which take away what they show. */
    static long[] shown(FigureHeads x) {
        Row row = new Row();
        showFleet(x, row, 0);
        for (int cell = 0; cell < 48; cell++) {
            row.add(x.sea(cell));
        }
        int more = x.count(8);
        for (int k = 0; k <= more && k < 8; k++) {
            row.add(x.undo());
            for (int ship = 0; ship < 5; ship++) {
                row.add(x.ship(ship, 1) * 100L + x.ship(ship, 2) * 10L + x.ship(ship, 3));
            }
            row.add(x.count(3) * 100L + x.count(5));
        }
        for (int k = 0; k < 2; k++) {
            row.add(x.restore(k));
            showFleet(x, row, 1);
        }
        showTape(x, row);
        for (int sheet = 0; sheet < 4; sheet++) {
            showSheet(x, row, sheet);
        }
        return Arrays.copyOf(row.answers, row.length);
    }

    private static void showFleet(FigureHeads x, Row row, int firstWhat) {
        for (int what = 0; what < 10; what++) {
            row.add(x.count(what));
        }
        for (int ship = 0; ship < 5; ship++) {
            for (int what = firstWhat; what < 4; what++) {
                row.add(x.ship(ship, what));
            }
        }
        for (int teller = 0; teller < 4; teller++) {
            row.add(x.credit(teller));
        }
    }

    /** Bytes of the reading fleet may be there: with the rest of it they are a fleet only if they are still the same. */
    private static void showTape(FigureHeads x, Row row) {
        int length = x.count(9);
        fed(x, length < READER.length() ? READER.substring(length) : "");
        int read = x.fleet();
        row.add(length);
        row.add(read);
        if (read != 5) {
            row.add(fed(x, READER).fleet());
        }
        row.add(x.count(1));
    }

    private static void showSheet(FigureHeads x, Row row, int sheet) {
        int lane = laneOf(x, sheet);
        int length = lengthOf(x, sheet);
        row.add(lane);
        row.add(length);
        for (int i = 0; i < length; i++) {
            row.add(read(x, sheet, lane, i));
        }
    }

    /** The lane of a sheet; -1: it is nothing. */
    static int laneOf(FigureHeads x, int sheet) {
        for (int lane = 0; lane < 4; lane++) {
            if (x.item(sheet, lane, -1, 0) == INDEX) {
                return lane;
            }
        }
        return -1;
    }

    /** How many items a sheet has; -1: it is nothing. */
    static int lengthOf(FigureHeads x, int sheet) {
        int most = -1;
        while (x.copy(sheet, 0, sheet, 0, most + 1) == most + 1) {
            most++;
        }
        return most;
    }

    /** Which of 0 .. 7 an item is; -1: none. The fleet is the reading one, or has its ships and more. */
    static int read(FigureHeads x, int sheet, int lane, int i) {
        int[] ahead = {2, 0, 5, 3, 7};
        int[] here = {1, 1, 4, 4, 6};
        for (int ship = 0; ship < 5; ship++) {
            int row = x.rows(ship, 0, sheet, lane, i, 1, 1);
            if (row == 0) {
                return ahead[ship];
            }
            if (row == 1) {
                return here[ship];
            }
        }
        return -1;
    }

    /** The items of a sheet are these, each 0 .. 7 (or -1: another); the fleet is the reading one behind this. */
    static void items(String what, FigureHeads x, int sheet, int lane, int... want) {
        due(what + ": the reading fleet", fed(x, READER).fleet(), 5);
        due(what + ": the lane of sheet " + sheet, laneOf(x, sheet), lane);
        due(what + ": items of sheet " + sheet, lengthOf(x, sheet), want.length);
        for (int i = 0; i < want.length; i++) {
            due(what + ": item " + i + " of sheet " + sheet, read(x, sheet, lane, i), want[i]);
        }
    }

    // ---- calls that change nothing

    /** The call answers what is due, and all is then as without it. */
    static void stays(String what, Made made, Call call, long want) {
        FigureHeads x = made.maker.get();
        due(what, call.on(x), want);
        long[] shown = shown(x);
        calls++;
        if (!Arrays.equals(shown, made.shown())) {
            wrong++;
            System.out.println(sentence + ": " + what + " changed what other calls show: "
                    + Arrays.toString(shown) + " for " + Arrays.toString(made.shown()));
        }
    }

    /** Each number below the least or above the most is refused so, and changes nothing. */
    static void beside(String what, Made made, int least, int most, NumberCall call, long want) {
        for (int v : new int[] {MIN, least - 1, most + 1, MAX}) {
            stays(what + " " + v, made, x -> call.on(x, v), want);
        }
    }

    /** As beside, the answer being BAD. */
    static void bad(String what, Made made, int least, int most, NumberCall call) {
        beside(what, made, least, most, call, BAD);
    }

    // ---- states

    static void state(String what, FigureHeads x, int ship, int cell, int looking, int worm) {
        due(what + ": cell", x.ship(ship, 1), cell);
        due(what + ": looking", x.ship(ship, 2), looking);
        due(what + ": worm", x.ship(ship, 3), worm);
    }

    static void credits(String what, FigureHeads x, int a, int b, int c, int d) {
        due(what + ": credit 0", x.credit(0), a);
        due(what + ": credit 1", x.credit(1), b);
        due(what + ": credit 2", x.credit(2), c);
        due(what + ": credit 3", x.credit(3), d);
    }
}
