import java.util.function.Supplier;

/** Promises 25 to 33 and part 4 of the document: each sentence that names a bound, with what is just within and just beside it. */
public final class FigureHeadsBoundsSheets {
    private static final int BAD = Due.BAD, NOT = Due.NOT, NONE = Due.NONE, NULL = Due.NULL, CAST = Due.CAST,
            INDEX = Due.INDEX, SIZE = Due.SIZE, MIN = Due.MIN, MAX = Due.MAX;
    private static final String NINE = "f.../.../...;o11n0;9900";

    private static void due(String what, long got, long want) {
        Due.due(what, got, want);
    }

    private static Due.Made made(Supplier<FigureHeads> maker) {
        return new Due.Made(maker);
    }

    private static long[] zeros(int n) {
        return new long[n];
    }

    // ---- promises 25 and 26

    private static void sheetBounds() {
        Due.sentence(25, "a row of a LANE: 0 bytes, 1 shorts, 2 ints, 3 longs, of 0 to 24 items");
        for (int sheet = 0; sheet < 4; sheet++) {
            for (int lane = 0; lane < 4; lane++) {
                FigureHeads x = new FigureHeads();
                for (int n : new int[] {24, 0, 1, 23, 24}) {
                    due("sheet " + sheet + " lane " + lane + " n " + n, x.sheet(sheet, lane, n), n);
                    due("its lane", Due.laneOf(x, sheet), lane);
                    due("its items", Due.lengthOf(x, sheet), n);
                    due("its last item", n == 0 ? 0 : x.item(sheet, lane, n - 1, 7), n == 0 ? 0 : 7);
                    due("one item more", x.item(sheet, lane, n, 7), INDEX);
                }
                for (int other = 0; other < 4; other++) {
                    due("sheet " + other + " beside " + sheet, Due.lengthOf(x, other), other == sheet ? 24 : -1);
                }
            }
        }
        Due.sentence(25, "A SHEET holds a new row of a LANE, of n items 0: n.");
        for (int lane = 0; lane < 4; lane++) {
            FigureHeads x = new FigureHeads();
            Due.write(x, 2, lane, 1, 2, 3, 4, 5, 6, 7, 1, 2, 3, 4, 5, 6, 7, 1, 2, 3, 4, 5, 6, 7, 1, 2, 3);
            due("anew", x.sheet(2, lane, 24), 24);
            Due.items("all are 0, lane " + lane, x, 2, lane, new int[24]);
        }
        Due.sentence(25, "BAD: also n above 24; SIZE: n below 0.");
        Due.stays("n 25", Due.BUSY, x -> x.sheet(0, 0, 25), BAD);
        Due.stays("the most", Due.BUSY, x -> x.sheet(1, 3, MAX), BAD);
        Due.stays("n 25 for nothing", Due.BUSY, x -> x.sheet(3, 0, 25), BAD);
        Due.stays("n -1", Due.BUSY, x -> x.sheet(0, 0, -1), SIZE);
        Due.stays("the least", Due.BUSY, x -> x.sheet(1, 3, MIN), SIZE);
        Due.stays("n -1 for nothing", Due.BUSY, x -> x.sheet(3, 0, -1), SIZE);
        Due.bad("sheet", Due.BUSY, 0, 3, (x, v) -> x.sheet(v, 0, 1));
        Due.bad("lane", Due.BUSY, 0, 3, (x, v) -> x.sheet(0, v, 1));
        Due.bad("lane for nothing", Due.BUSY, 0, 3, (x, v) -> x.sheet(3, v, 1));
        Due.sentence(25, "of several the first that a call names: BAD; SIZE");
        Due.bad("sheet, n -1", Due.BUSY, 0, 3, (x, v) -> x.sheet(v, 0, -1));
        Due.bad("lane, n -1", Due.BUSY, 0, 3, (x, v) -> x.sheet(0, v, -1));
        Due.bad("lane, the least n", Due.NEW, 0, 3, (x, v) -> x.sheet(0, v, MIN));
    }

    private static void dropBounds() {
        Due.sentence(26, "A SHEET holds nothing: how many items it had. BAD; NULL.");
        for (int sheet = 0; sheet < 4; sheet++) {
            int v = sheet;
            for (int n : new int[] {0, 1, 24}) {
                FigureHeads x = new FigureHeads();
                x.sheet(v, 1, n);
                due("drop of " + n, x.drop(v), n);
                due("it is nothing", x.drop(v), NULL);
                due("it has no item", x.item(v, 1, 0, 0), NULL);
                due("it can be a row again", x.sheet(v, 2, 3), 3);
            }
            Due.stays("nothing yet", Due.NEW, x -> x.drop(v), NULL);
        }
        Due.stays("nothing, beside others", Due.BUSY, x -> x.drop(3), NULL);
        Due.bad("sheet", Due.BUSY, 0, 3, FigureHeads::drop);
        Due.bad("sheet, all nothing", Due.NEW, 0, 3, FigureHeads::drop);
        FigureHeads x = Due.busy();
        due("one of three", x.drop(1), 5);
        due("another stays", x.drop(0), 4);
        due("a third stays", x.drop(2), 3);
    }

    // ---- promise 27

    private static void itemBits() {
        Due.sentence(27, "becomes v, its lowest bits: what it is then");
        long[][] bytes = {{0, 0}, {127, 127}, {128, -128}, {255, -1}, {256, 0}, {-1, -1}, {-128, -128}, {-129, 127}, {383, 127},
            {1L << 40, 0}, {Long.MAX_VALUE, -1}, {Long.MIN_VALUE, 0}};
        long[][] shorts = {{127, 127}, {128, 128}, {32767, 32767}, {32768, -32768}, {65535, -1}, {65536, 0}, {-32768, -32768},
            {-32769, 32767}, {Long.MAX_VALUE, -1}, {Long.MIN_VALUE, 0}};
        long[][] ints = {{32768, 32768}, {MAX, MAX}, {1L + MAX, MIN}, {4294967295L, -1}, {4294967296L, 0}, {MIN, MIN},
            {(long) MIN - 1, MAX}, {Long.MAX_VALUE, -1}, {Long.MIN_VALUE, 0}};
        long[][] longs = {{1L + MAX, 1L + MAX}, {4294967296L, 4294967296L}, {Long.MAX_VALUE, Long.MAX_VALUE},
            {Long.MIN_VALUE, Long.MIN_VALUE}, {-1, -1}};
        long[][][] lanes = {bytes, shorts, ints, longs};
        for (int lane = 0; lane < 4; lane++) {
            FigureHeads x = new FigureHeads();
            x.sheet(0, lane, 1);
            for (long[] pair : lanes[lane]) {
                due("lane " + lane + " of " + pair[0], x.item(0, lane, 0, pair[0]), pair[1]);
            }
        }
        Due.sentence(27, "becomes v, its lowest bits: it is so then for other calls");
        for (int lane = 0; lane < 4; lane++) {
            FigureHeads x = new FigureHeads();
            Due.write(x, 0, lane, 258, 65538, 4294967298L, 2);
            Due.items("2 and more bits, lane " + lane, x, 0, lane, lane == 0 ? 2 : -1, lane < 2 ? 2 : -1, lane < 3 ? 2 : -1, 2);
        }
    }

    private static void itemBounds() {
        Due.sentence(27, "the first and the last place of a row");
        for (int n : new int[] {1, 2, 24}) {
            FigureHeads x = new FigureHeads();
            x.sheet(1, 2, n);
            due("the first of " + n, x.item(1, 2, 0, 5), 5);
            due("the last of " + n, x.item(1, 2, n - 1, 6), 6);
            due("behind the last of " + n, x.item(1, 2, n, 7), INDEX);
            int[] want = new int[n];
            want[0] = 5;
            want[n - 1] = 6;
            Due.items("of " + n, x, 1, 2, want);
        }
        Due.sentence(27, "BAD; NULL; CAST; INDEX.");
        Due.beside("i", Due.BUSY, 0, 3, (x, v) -> x.item(0, 0, v, 9), INDEX);
        Due.beside("i of longs", Due.BUSY, 0, 4, (x, v) -> x.item(1, 3, v, 9), INDEX);
        Due.Made empty = made(() -> emptied());
        Due.beside("i of 0 items", empty, 0, -1, (x, v) -> x.item(3, 1, v, 9), INDEX);
        Due.stays("i 1 of 0 items", empty, x -> x.item(3, 1, 1, 9), INDEX);
        for (int lane = 0; lane < 4; lane++) {
            int v = lane;
            if (lane != 0) {
                Due.stays("bytes as lane " + v, Due.BUSY, x -> x.item(0, v, 0, 9), CAST);
            }
            if (lane != 3) {
                Due.stays("longs as lane " + v, Due.BUSY, x -> x.item(1, v, 0, 9), CAST);
            }
            if (lane != 1) {
                Due.stays("0 shorts as lane " + v, empty, x -> x.item(3, v, 0, 9), CAST);
            }
            Due.stays("nothing as lane " + v, Due.BUSY, x -> x.item(3, v, 0, 9), NULL);
        }
        Due.bad("sheet", Due.BUSY, 0, 3, (x, v) -> x.item(v, 0, 0, 9));
        Due.bad("lane", Due.BUSY, 0, 3, (x, v) -> x.item(0, v, 0, 9));
        Due.sentence(27, "of several the first that a call names: BAD; NULL; CAST; INDEX");
        Due.bad("lane of nothing", Due.BUSY, 0, 3, (x, v) -> x.item(3, v, 0, 9));
        Due.bad("lane, i", Due.BUSY, 0, 3, (x, v) -> x.item(0, v, 4, 9));
        Due.bad("sheet, i", Due.BUSY, 0, 3, (x, v) -> x.item(v, 0, -1, 9));
        Due.stays("nothing, i", Due.BUSY, x -> x.item(3, 0, -1, 9), NULL);
        Due.stays("another lane, i", Due.BUSY, x -> x.item(0, 1, 4, 9), CAST);
        Due.stays("another lane, i -1", Due.BUSY, x -> x.item(1, 2, -1, 9), CAST);
    }

    private static FigureHeads emptied() {
        FigureHeads x = Due.idle();
        x.sheet(3, 1, 0);
        return x;
    }

    // ---- promise 28

    private static FigureHeads eight() {
        FigureHeads x = new FigureHeads();
        Due.write(x, 0, 0, 0, 1, 2, 3, 4, 5, 6, 7);
        Due.write(x, 1, 0, 7, 7, 7, 7);
        Due.write(x, 2, 2, 6, 6);
        return x;
    }

    private static void copies(String what, int i, int to, int j, int n, int... want) {
        FigureHeads x = eight();
        due(what, x.copy(0, i, to, j, n), n);
        Due.items(what, x, to, 0, want);
        due(what + ": the one it came from", Due.read(x, 0, 0, 7), to == 0 ? want[7] : 7);
    }

    private static void copyBounds() {
        Due.sentence(28, "n items of a SHEET from i on come to another one (or the same) from j on");
        copies("the first to the first", 0, 1, 0, 1, 0, 7, 7, 7);
        copies("the last to the last", 7, 1, 3, 1, 7, 7, 7, 7);
        copies("the last but one to the last", 6, 1, 3, 1, 7, 7, 7, 6);
        copies("a whole row", 0, 1, 0, 4, 0, 1, 2, 3);
        copies("the last four", 4, 1, 0, 4, 4, 5, 6, 7);
        copies("none at the first", 0, 1, 0, 0, 7, 7, 7, 7);
        copies("none at the very end", 8, 1, 4, 0, 7, 7, 7, 7);
        copies("all in place", 0, 0, 0, 8, 0, 1, 2, 3, 4, 5, 6, 7);
        Due.sentence(28, "as if all were taken ahead");
        copies("forward by one", 0, 0, 1, 7, 0, 0, 1, 2, 3, 4, 5, 6);
        copies("backward by one", 1, 0, 0, 7, 1, 2, 3, 4, 5, 6, 7, 7);
        copies("forward by three", 0, 0, 3, 5, 0, 1, 2, 0, 1, 2, 3, 4);
        copies("backward by three", 3, 0, 0, 5, 3, 4, 5, 6, 7, 5, 6, 7);
        FigureHeads full = new FigureHeads();
        Due.write(full, 0, 3, 1, 2, 3, 4, 5, 6, 7, 1, 2, 3, 4, 5, 6, 7, 1, 2, 3, 4, 5, 6, 7, 1, 2, 3);
        full.sheet(3, 3, 24);
        due("24 items", full.copy(0, 0, 3, 0, 24), 24);
        due("25 items", full.copy(0, 0, 3, 0, 25), INDEX);
        due("24 from the second on", full.copy(0, 1, 3, 0, 24), INDEX);
        due("24 to the second on", full.copy(0, 0, 3, 1, 24), INDEX);
        Due.items("24 items", full, 3, 3, 1, 2, 3, 4, 5, 6, 7, 1, 2, 3, 4, 5, 6, 7, 1, 2, 3, 4, 5, 6, 7, 1, 2, 3);
        FigureHeads none = new FigureHeads();
        none.sheet(0, 0, 0);
        due("0 items of 0", none.copy(0, 0, 0, 0, 0), 0);
        due("1 item of 0", none.copy(0, 0, 0, 0, 1), INDEX);
        due("0 items of 0 behind it", none.copy(0, 1, 0, 0, 0), INDEX);
        due("0 items of 0 to behind it", none.copy(0, 0, 0, 1, 0), INDEX);
    }

    private static void copyIsRefused() {
        Due.Made rows = made(FigureHeadsBoundsSheets::eight);
        Due.sentence(28, "INDEX (n below 0, too)");
        Due.stays("n -1", rows, x -> x.copy(0, 0, 1, 0, -1), INDEX);
        Due.stays("n -1, room for it", rows, x -> x.copy(0, 4, 1, 2, -1), INDEX);
        Due.stays("the least n", rows, x -> x.copy(0, 0, 1, 0, MIN), INDEX);
        Due.stays("n 5 to four", rows, x -> x.copy(0, 0, 1, 0, 5), INDEX);
        Due.stays("n 9 of eight", rows, x -> x.copy(0, 0, 0, 0, 9), INDEX);
        Due.stays("n 5 of four", rows, x -> x.copy(1, 0, 0, 0, 5), INDEX);
        Due.stays("the most n", rows, x -> x.copy(0, 0, 1, 0, MAX), INDEX);
        Due.stays("the most n from the last", rows, x -> x.copy(0, 7, 1, 3, MAX), INDEX);
        Due.stays("from too far on", rows, x -> x.copy(0, 5, 1, 0, 4), INDEX);
        Due.stays("to too far on", rows, x -> x.copy(0, 0, 1, 1, 4), INDEX);
        Due.beside("i", rows, 0, 7, (x, v) -> x.copy(0, v, 1, 0, 1), INDEX);
        Due.beside("j", rows, 0, 3, (x, v) -> x.copy(0, 0, 1, v, 1), INDEX);
        Due.beside("i for none", rows, 0, 8, (x, v) -> x.copy(0, v, 1, 0, 0), INDEX);
        Due.beside("j for none", rows, 0, 4, (x, v) -> x.copy(0, 0, 1, v, 0), INDEX);
        Due.beside("i in the same", rows, 0, 7, (x, v) -> x.copy(0, v, 0, 0, 1), INDEX);
        Due.stays("the most i and n", rows, x -> x.copy(0, MAX, 1, MAX, MAX), INDEX);
        Due.stays("the least i and n", rows, x -> x.copy(0, MIN, 1, MIN, MIN), INDEX);
        Due.sentence(28, "CAST: of unlike LANES");
        Due.stays("bytes to ints", rows, x -> x.copy(0, 0, 2, 0, 1), CAST);
        Due.stays("ints to bytes", rows, x -> x.copy(2, 0, 0, 0, 1), CAST);
        Due.stays("none of unlike lanes", rows, x -> x.copy(0, 0, 2, 0, 0), CAST);
        Due.sentence(28, "NULL (either)");
        Due.stays("to nothing", rows, x -> x.copy(0, 0, 3, 0, 1), NULL);
        Due.stays("from nothing", rows, x -> x.copy(3, 0, 0, 0, 1), NULL);
        Due.stays("nothing to itself", rows, x -> x.copy(3, 0, 3, 0, 0), NULL);
        Due.sentence(28, "BAD");
        Due.bad("from", rows, 0, 3, (x, v) -> x.copy(v, 0, 0, 0, 1));
        Due.bad("to", rows, 0, 3, (x, v) -> x.copy(0, 0, v, 0, 1));
        Due.sentence(28, "of several the first that a call names: BAD; NULL; CAST; INDEX");
        Due.bad("from, to nothing", rows, 0, 3, (x, v) -> x.copy(v, 0, 3, 0, 1));
        Due.bad("to, from nothing", rows, 0, 3, (x, v) -> x.copy(3, 0, v, 0, 1));
        Due.bad("to, n -1", rows, 0, 3, (x, v) -> x.copy(0, 0, v, 0, -1));
        Due.stays("nothing, n -1", rows, x -> x.copy(0, 0, 3, 0, -1), NULL);
        Due.stays("nothing, i -1", rows, x -> x.copy(3, -1, 0, 0, 1), NULL);
        Due.stays("unlike lanes, n -1", rows, x -> x.copy(0, 0, 2, 0, -1), CAST);
        Due.stays("unlike lanes, i 8", rows, x -> x.copy(0, 8, 2, 0, 1), CAST);
        Due.stays("unlike lanes, j 2", rows, x -> x.copy(0, 0, 2, 2, 1), CAST);
    }

    // ---- promise 29

    private static void logBounds() {
        Due.sentence(29, "Items i to n more of a SHEET (1 .. 24)");
        for (int lane = 0; lane < 4; lane++) {
            FigureHeads one = Due.with("f........;o01e0;3000");
            Due.write(one, 0, lane, 6, 0, 6);
            due("n 1, lane " + lane, one.log(0, 0, 0, lane, 1, 1), 1);
            Due.items("n 1", one, 0, lane, 6, 2, 6);
            FigureHeads all = Due.with("f........;o01e0;3000");
            Due.write(all, 0, lane, zeros(24));
            due("n 24, lane " + lane, all.log(0, 0, 0, lane, 0, 24), 24);
            Due.items("n 24", all, 0, lane, 2, 3, 4, 5, 6, 7, 7, 7, 7, 7, 7, 7, 7, 7, 7, 7, 7, 7, 7, 7, 7, 7, 7, 7);
        }
        FigureHeads first = Due.with("f........;o01e0;3000");
        Due.write(first, 0, 0, 0, 1, 7);
        due("the first two of three", first.log(0, 0, 0, 0, 0, 2), 2);
        // To 2, then LEFT of e is n, and strikes.
        Due.items("the first two", first, 0, 0, 2, 2, 7);
        FigureHeads last = Due.with("f........;o01e0;3000");
        Due.write(last, 0, 0, 7, 2, 0);
        due("the last two of three", last.log(0, 0, 0, 0, 1, 2), 2);
        Due.items("the last two", last, 0, 0, 7, 1, 1);
        Due.sentence(29, "in thought");
        FigureHeads x = Due.with(Due.FIVE);
        x.sheet(0, 0, 24);
        x.log(1, 0, 0, 0, 0, 24);
        for (int what = 0; what < 10; what++) {
            due("count " + what, x.count(what), new int[] {5, 6, 3, 0, 3, 14, 2, 0, 0, 0}[what]);
        }
        Due.state("the ship", x, 1, 0, 2, 1);
        Due.credits("credit", x, 6, 3, 0, 5);
        due("she begins anew each time", x.log(1, 0, 0, 0, 0, 1), NOT);
    }

    private static FigureHeads words(long... items) {
        FigureHeads x = Due.with(NINE);
        Due.write(x, 0, 0, items);
        Due.write(x, 1, 3, items);
        Due.write(x, 2, 2, zeros(24));
        return x;
    }

    private static void logIsRefused() {
        Due.Made row = made(() -> words(0, 1, 2, 3));
        Due.sentence(29, "NOT: an item that is no WORD (all stays)");
        Due.stays("3 at the last", row, x -> x.log(0, 0, 0, 0, 0, 4), NOT);
        Due.stays("3 alone", row, x -> x.log(0, 0, 0, 0, 3, 1), NOT);
        Due.stays("3 at the last, of longs", row, x -> x.log(0, 0, 1, 3, 0, 4), NOT);
        Due.stays("-1 at the first", made(() -> words(-1, 1, 2)), x -> x.log(0, 0, 0, 0, 0, 3), NOT);
        Due.stays("-1 at the last", made(() -> words(0, 1, -1)), x -> x.log(0, 0, 0, 0, 0, 3), NOT);
        Due.stays("a word and higher bits", made(() -> words(0, 1L << 32, 2)), x -> x.log(0, 0, 1, 3, 0, 3), NOT);
        Due.stays("the least long", made(() -> words(0, Long.MIN_VALUE, 2)), x -> x.log(0, 0, 1, 3, 0, 3), NOT);
        Due.stays("the most", made(() -> words(0, Long.MAX_VALUE, 2)), x -> x.log(0, 0, 1, 3, 0, 3), NOT);
        due("all three words", words(0, 1, 2, 3).log(0, 0, 0, 0, 0, 3), 3);
        due("all but the first", words(3, 0, 1, 2).log(0, 0, 0, 0, 1, 3), 3);
        Due.sentence(29, "INDEX");
        Due.beside("i, n 1", row, 0, 3, (x, v) -> x.log(0, 0, 0, 0, v, 1), INDEX);
        Due.beside("i, n 3", row, 0, 1, (x, v) -> x.log(0, 0, 0, 0, v, 3), INDEX);
        Due.stays("n 5 of four", row, x -> x.log(0, 0, 0, 0, 0, 5), INDEX);
        Due.stays("n 24 of 24, i 1", row, x -> x.log(0, 0, 2, 2, 1, 24), INDEX);
        Due.sentence(29, "CAST; NULL");
        Due.stays("bytes as longs", row, x -> x.log(0, 0, 0, 3, 0, 1), CAST);
        Due.stays("longs as bytes", row, x -> x.log(0, 0, 1, 0, 0, 1), CAST);
        Due.stays("ints as shorts", row, x -> x.log(0, 0, 2, 1, 0, 1), CAST);
        Due.stays("nothing", row, x -> x.log(0, 0, 3, 0, 0, 1), NULL);
        Due.sentence(29, "BAD");
        Due.bad("n", row, 1, 24, (x, v) -> x.log(0, 0, 2, 2, 0, v));
        Due.bad("ship", row, 0, 0, (x, v) -> x.log(v, 0, 0, 0, 0, 1));
        Due.bad("teller", row, 0, 3, (x, v) -> x.log(0, v, 0, 0, 0, 1));
        Due.bad("sheet", row, 0, 3, (x, v) -> x.log(0, 0, v, 0, 0, 1));
        Due.bad("lane", row, 0, 3, (x, v) -> x.log(0, 0, 0, v, 0, 1));
        Due.stays("no fleet", Due.NO_FLEET, x -> x.log(0, 0, 0, 0, 0, 1), BAD);
        Due.sentence(29, "of several the first that a call names: BAD; NULL; CAST; INDEX; NOT");
        Due.stays("no fleet, nothing", Due.NO_FLEET, x -> x.log(0, 0, 3, 0, 0, 1), BAD);
        Due.bad("n, nothing", row, 1, 24, (x, v) -> x.log(0, 0, 3, 0, 0, v));
        Due.bad("n, another lane", row, 1, 24, (x, v) -> x.log(0, 0, 0, 1, 0, v));
        Due.bad("n, i -1", row, 1, 24, (x, v) -> x.log(0, 0, 0, 0, -1, v));
        Due.bad("n, no word", row, 1, 24, (x, v) -> x.log(0, 0, 0, 0, 3, v));
        Due.bad("lane, nothing", row, 0, 3, (x, v) -> x.log(0, 0, 3, v, 0, 1));
        Due.stays("nothing, i -1", row, x -> x.log(0, 0, 3, 0, -1, 1), NULL);
        Due.stays("another lane, i -1", row, x -> x.log(0, 0, 0, 1, -1, 1), CAST);
        Due.stays("another lane, no word", row, x -> x.log(0, 0, 0, 1, 3, 1), CAST);
        Due.stays("too far, no word", row, x -> x.log(0, 0, 0, 0, 3, 2), INDEX);
    }

    // ---- promise 30

    private static final String WIDE = "f......../......../......../......../......../........;o22n0;9000";

    private static void rowsIs(String what, FigureHeads x, int teller, int n, int many, int first) {
        due(what + ": how many", x.rows(0, teller, 0, 2, 0, n, 0), many);
        due(what + ": the first", x.rows(0, teller, 0, 2, 0, n, 1), first);
    }

    private static FigureHeads cells(String tape, long... items) {
        FigureHeads x = Due.with(tape);
        Due.write(x, 0, 2, items);
        return x;
    }

    private static void rowsBounds() {
        Due.sentence(30, "ROWS by n CELLS (1 to 6)");
        rowsIs("n 1", cells(WIDE, 10), 0, 1, 1, 0);
        rowsIs("n 2", cells(WIDE, 10, 9), 0, 2, 1, 1);
        rowsIs("n 6", cells(WIDE, 10, 2, 3, 4, 5, 6), 0, 6, 1, 54);
        Due.sentence(30, "told as a number, the first WORD its highest figure, by 3");
        rowsIs("six times left", cells(WIDE, 17, 25, 26, 18, 17, 25), 0, 6, 1, 364);
        rowsIs("six times right", cells(WIDE, 19, 27, 26, 18, 19, 27), 0, 6, 1, 728);
        rowsIs("right, then left", cells(WIDE, 19, 11), 0, 2, 1, 7);
        rowsIs("left, then right", cells(WIDE, 17, 9), 0, 2, 1, 5);
        Due.sentence(30, "behind each of which the SHIP is in that CELL (STRIKING or not)");
        rowsIs("not believed: all rows, struck from the third on", cells(WIDE, 10, 2, 2, 2, 2, 2), 1, 6, 729, 0);
        rowsIs("struck by each word", cells("f.;o00n0;9000", 0), 0, 1, 3, 0);
        rowsIs("struck by each word, six times", cells("f.;o00n0;9000", 0, 0, 0, 0, 0, 0), 0, 6, 729, 0);
        rowsIs("struck by two of three", cells("f..;o00e0;9000", 0), 0, 1, 2, 1);
        rowsIs("the last cell is another", cells(WIDE, 19, 27, 26, 18, 19, 26), 0, 6, 0, NONE);
        rowsIs("the first cell is another", cells(WIDE, 18, 27, 26, 18, 19, 27), 0, 6, 0, NONE);
        Due.sentence(30, "how many (what 0), the first (1; NONE)");
        rowsIs("none", cells(WIDE, 18), 0, 1, 0, NONE);
        rowsIs("an item that is no cell: 48", cells(WIDE, 48), 0, 1, 0, NONE);
        rowsIs("an item that is no cell: -1", cells(WIDE, -1), 0, 1, 0, NONE);
        rowsIs("an item beside the sea", cells("f...;o00e0;9000", 3), 0, 1, 0, NONE);
        FigureHeads longs = Due.with(WIDE);
        Due.write(longs, 0, 3, 10 + (1L << 32), 10);
        due("a cell and higher bits", longs.rows(0, 0, 0, 3, 0, 1, 0), 0);
        due("a cell", longs.rows(0, 0, 0, 3, 1, 1, 0), 1);
    }

    private static void rowsIsRefused() {
        Due.Made row = made(() -> words(1, 8, 2, 1, 8, 2));
        Due.sentence(30, "items of a SHEET, taken as a row of a LANE, from i on: INDEX");
        // NINE: 9 looking n; STILL to 1, LEFT to 8, RIGHT to 10.
        Due.stays("the first", row, x -> x.rows(0, 0, 0, 0, 0, 1, 1), 0);
        Due.stays("the second", row, x -> x.rows(0, 0, 0, 0, 1, 1, 1), 1);
        Due.stays("the last", row, x -> x.rows(0, 0, 0, 0, 5, 1, 1), NONE);
        Due.stays("all six", row, x -> x.rows(0, 0, 0, 0, 0, 6, 0), 0);
        Due.beside("i, n 1", row, 0, 5, (x, v) -> x.rows(0, 0, 0, 0, v, 1, 0), INDEX);
        Due.beside("i, n 6", row, 0, 0, (x, v) -> x.rows(0, 0, 0, 0, v, 6, 0), INDEX);
        Due.beside("i, n 6 of 24", row, 0, 18, (x, v) -> x.rows(0, 0, 2, 2, v, 6, 1), INDEX);
        Due.stays("n 6 of 24, i 18", row, x -> x.rows(0, 0, 2, 2, 18, 6, 0), 0);
        Due.sentence(30, "BAD; NULL; CAST");
        Due.bad("n", row, 1, 6, (x, v) -> x.rows(0, 0, 2, 2, 0, v, 0));
        Due.bad("what", row, 0, 1, (x, v) -> x.rows(0, 0, 0, 0, 0, 1, v));
        Due.bad("ship", row, 0, 0, (x, v) -> x.rows(v, 0, 0, 0, 0, 1, 0));
        Due.bad("teller", row, 0, 3, (x, v) -> x.rows(0, v, 0, 0, 0, 1, 0));
        Due.bad("sheet", row, 0, 3, (x, v) -> x.rows(0, 0, v, 0, 0, 1, 0));
        Due.bad("lane", row, 0, 3, (x, v) -> x.rows(0, 0, 0, v, 0, 1, 0));
        Due.stays("no fleet", Due.NO_FLEET, x -> x.rows(0, 0, 0, 0, 0, 1, 0), BAD);
        Due.stays("nothing", row, x -> x.rows(0, 0, 3, 0, 0, 1, 0), NULL);
        Due.stays("bytes as shorts", row, x -> x.rows(0, 0, 0, 1, 0, 1, 0), CAST);
        Due.stays("longs as ints", row, x -> x.rows(0, 0, 1, 2, 0, 1, 0), CAST);
        Due.sentence(30, "of several the first that a call names: BAD; NULL; CAST; INDEX");
        Due.stays("no fleet, nothing", Due.NO_FLEET, x -> x.rows(0, 0, 3, 0, 0, 1, 0), BAD);
        Due.bad("n, nothing", row, 1, 6, (x, v) -> x.rows(0, 0, 3, 0, 0, v, 0));
        Due.bad("n, another lane", row, 1, 6, (x, v) -> x.rows(0, 0, 0, 1, 0, v, 0));
        Due.bad("n, i -1", row, 1, 6, (x, v) -> x.rows(0, 0, 0, 0, -1, v, 0));
        Due.bad("what, nothing", row, 0, 1, (x, v) -> x.rows(0, 0, 3, 0, 0, 1, v));
        Due.bad("lane, nothing", row, 0, 3, (x, v) -> x.rows(0, 0, 3, v, 0, 1, 0));
        Due.stays("nothing, i -1", row, x -> x.rows(0, 0, 3, 0, -1, 1, 0), NULL);
        Due.stays("another lane, i -1", row, x -> x.rows(0, 0, 0, 1, -1, 1, 0), CAST);
    }

    // ---- promise 31

    private static void kindsIs(String what, String tape, int teller, int set, int next, long... pairs) {
        FigureHeads x = Due.with(tape);
        Due.write(x, 3, 1, pairs);
        due(what + ": set", x.kinds(0, teller, 3, 1, 0, pairs.length / 2, 0), set);
        due(what + ": try", x.kinds(0, teller, 3, 1, 0, pairs.length / 2, 1), next);
    }

    /** Ten pairs of a word and cell 0, but for the one at a place. */
    private static long[] tenPairs(int place, long item) {
        long[] pairs = {0, 0, 1, 0, 2, 0, 0, 0, 1, 0, 2, 0, 0, 0, 1, 0, 2, 0, 0, 0};
        pairs[place] = item;
        return pairs;
    }

    private static void kindsBounds() {
        Due.sentence(31, "KINDS by n pairs (1 to 10; a WORD, a CELL)");
        kindsIs("n 1, left by an oak", NINE, 0, 22, 0, 1, 8);
        kindsIs("n 1, left by a mirror", NINE, 0, 32, 0, 1, 10);
        kindsIs("n 1, left by a deaf one", NINE, 0, 8, 0, 1, 1);
        kindsIs("n 1, left by teller 1", NINE, 1, 6, 0, 1, 8);
        kindsIs("n 1, left by teller 1: a thomas is as deaf", NINE, 1, 24, 0, 1, 1);
        kindsIs("n 2, right, then left", NINE, 0, 22, 0, 2, 10, 1, 2);
        kindsIs("n 3, still, right, right", NINE, 0, 22, 0, 0, 1, 2, 2, 2, 10);
        kindsIs("n 10", "f.;o00n0;0000", 1, 62, 0, tenPairs(0, 0));
        kindsIs("n 10, the first cell is another", "f.;o00n0;0000", 1, 0, NONE, tenPairs(1, 1));
        kindsIs("n 10, the last cell is another", "f.;o00n0;0000", 1, 0, NONE, tenPairs(19, 1));
        Due.sentence(31, "as a set (bits 1 .. 5; what 0)");
        kindsIs("all", NINE, 0, 62, 1, 0, 1);
        kindsIs("none: where she was", NINE, 0, 0, NONE, 0, 9);
        kindsIs("an item that should be a cell and is none: 48", NINE, 0, 0, NONE, 0, 48);
        kindsIs("an item that should be a cell and is none: -1", NINE, 0, 0, NONE, 0, -1);
        Due.sentence(31, "so that, these WORDS being SAID by one TELLER: credit as much as the doubt of each kind, and by one not");
        int[] turned = {16, 20 + 32, 20 + 32, 22 + 32};
        for (int credit = 0; credit <= 3; credit++) {
            String tape = "f.../.../...;d11n0;" + credit + "000";
            int left = turned[credit] & 22;
            int right = turned[credit] & 32;
            FigureHeads x = Due.with(tape);
            Due.write(x, 0, 0, 1, 8, 1, 10, 1, 1);
            due("credit " + credit + ": left", x.kinds(0, 0, 0, 0, 0, 1, 0), left);
            due("credit " + credit + ": right", x.kinds(0, 0, 0, 0, 2, 1, 0), right);
            due("credit " + credit + ": ahead", x.kinds(0, 0, 0, 0, 4, 1, 0), 62 - left - right);
        }
        Due.sentence(31, "by which the greatest part of these KINDS that is in one CELL then is least, of like ones the first");
        kindsIs("left and right are alike", NINE, 0, 62, 1, 0, 1);
        kindsIs("a rock to the left: right", "f#../.../...;o11n0;9900", 0, 62, 2, 0, 1);
        kindsIs("a rock to the right: left", "f..#/.../...;o11n0;9900", 0, 62, 1, 0, 1);
        kindsIs("one kind alone: still", "f....;o01e0;3000", 0, 8, 0, 1, 2);
        kindsIs("a mirror alone: still, to cell 0", "f..../....;o02s0;9000", 0, 32, 0, 1, 1);
        kindsIs("all strike: still", "f.#./.../...;o10e0;0000", 1, 62, 0, 0, 9);
        Due.sentence(31, "none: there is no KIND");
        kindsIs("a kind by the first pair, none by the second", NINE, 0, 0, NONE, 1, 8, 0, 9);
    }

    private static FigureHeads paired() {
        FigureHeads x = words(1, 8, 3, 8, 2, 8, 1);
        Due.write(x, 2, 2, 1, 8, 0, 8, 0, 8, 0, 8, 0, 8, 0, 8, 0, 8, 0, 8, 0, 8, 0, 8, 0, 8, 0, 8);
        return x;
    }

    private static void kindsIsRefused() {
        Due.Made row = made(FigureHeadsBoundsSheets::paired);
        Due.sentence(31, "NOT: an item that should be a WORD and is none");
        Due.stays("the second word is 3", row, x -> x.kinds(0, 0, 0, 0, 0, 2, 0), NOT);
        Due.stays("the second word is 3, try", row, x -> x.kinds(0, 0, 0, 0, 0, 3, 1), NOT);
        Due.stays("the first word is 3", row, x -> x.kinds(0, 0, 0, 0, 2, 1, 0), NOT);
        Due.stays("a cell in a word's place", row, x -> x.kinds(0, 0, 0, 0, 1, 1, 0), NOT);
        Due.stays("a 3 in a cell's place", row, x -> x.kinds(0, 0, 0, 0, 1, 1, 1), NOT);
        for (int place = 0; place < 20; place += 2) {
            for (long item : new long[] {3, -1, 1L << 32, Long.MIN_VALUE}) {
                FigureHeads x = Due.with("f.;o00n0;0000");
                Due.write(x, 0, 3, tenPairs(place, item));
                due("item " + place + " is " + item, x.kinds(0, 0, 0, 3, 0, 10, 0), NOT);
                due("item " + place + " is " + item + ", pairs ahead of it", x.kinds(0, 0, 0, 3, 0, Math.max(1, place / 2), 0), place == 0 ? NOT : 62);
            }
        }
        kindsIs("a cell's place may hold what is no word", NINE, 0, 22, 0, 1, 8);
        due("no kind fits ahead of what is no word", afterNoKind().kinds(0, 0, 0, 0, 0, 2, 0), NOT);
        Due.sentence(31, "items of a SHEET, likewise: INDEX");
        Due.beside("i, n 1 of 7", row, 0, 5, (x, v) -> x.kinds(0, 0, 0, 0, v, 1, 0), INDEX);
        Due.stays("a pair's cell is missing", row, x -> x.kinds(0, 0, 0, 0, 6, 1, 0), INDEX);
        Due.stays("n 4 of 7", row, x -> x.kinds(0, 0, 0, 0, 0, 4, 0), INDEX);
        Due.beside("i, n 10 of 24", row, 0, 4, (x, v) -> x.kinds(0, 0, 2, 2, v, 10, 0), INDEX);
        // Left to 8, looking w: there she strikes, and stays.
        Due.stays("n 10 of 24, i 0", row, x -> x.kinds(0, 0, 2, 2, 0, 10, 0), 22);
        Due.stays("n 10 of 24, i 4", row, x -> x.kinds(0, 0, 2, 2, 4, 10, 0), 0);
        Due.sentence(31, "BAD; NULL; CAST");
        Due.bad("n", row, 1, 10, (x, v) -> x.kinds(0, 0, 2, 2, 0, v, 0));
        Due.bad("what", row, 0, 1, (x, v) -> x.kinds(0, 0, 0, 0, 0, 1, v));
        Due.bad("ship", row, 0, 0, (x, v) -> x.kinds(v, 0, 0, 0, 0, 1, 0));
        Due.bad("teller", row, 0, 3, (x, v) -> x.kinds(0, v, 0, 0, 0, 1, 0));
        Due.bad("sheet", row, 0, 3, (x, v) -> x.kinds(0, 0, v, 0, 0, 1, 0));
        Due.bad("lane", row, 0, 3, (x, v) -> x.kinds(0, 0, 0, v, 0, 1, 0));
        Due.stays("no fleet", Due.NO_FLEET, x -> x.kinds(0, 0, 0, 0, 0, 1, 0), BAD);
        Due.stays("nothing", row, x -> x.kinds(0, 0, 3, 0, 0, 1, 0), NULL);
        Due.stays("bytes as shorts", row, x -> x.kinds(0, 0, 0, 1, 0, 1, 0), CAST);
        Due.stays("longs as ints", row, x -> x.kinds(0, 0, 1, 2, 0, 1, 0), CAST);
        Due.stays("nothing changes", row, x -> x.kinds(0, 0, 0, 0, 0, 1, 0), 22);
        Due.stays("nothing changes: try", row, x -> x.kinds(0, 0, 0, 0, 0, 1, 1), 0);
        Due.sentence(31, "of several the first that a call names: BAD; NULL; CAST; INDEX; NOT");
        Due.stays("no fleet, nothing", Due.NO_FLEET, x -> x.kinds(0, 0, 3, 0, 0, 1, 0), BAD);
        Due.bad("n, nothing", row, 1, 10, (x, v) -> x.kinds(0, 0, 3, 0, 0, v, 0));
        Due.bad("n, another lane", row, 1, 10, (x, v) -> x.kinds(0, 0, 0, 1, 0, v, 0));
        Due.bad("n, i -1", row, 1, 10, (x, v) -> x.kinds(0, 0, 0, 0, -1, v, 0));
        Due.bad("what, no word", row, 0, 1, (x, v) -> x.kinds(0, 0, 0, 0, 2, 1, v));
        Due.bad("lane, nothing", row, 0, 3, (x, v) -> x.kinds(0, 0, 3, v, 0, 1, 0));
        Due.stays("nothing, i -1", row, x -> x.kinds(0, 0, 3, 0, -1, 1, 0), NULL);
        Due.stays("another lane, i -1", row, x -> x.kinds(0, 0, 0, 1, -1, 1, 0), CAST);
        Due.stays("another lane, no word", row, x -> x.kinds(0, 0, 0, 1, 2, 1, 0), CAST);
        Due.stays("too far, no word", row, x -> x.kinds(0, 0, 0, 0, 2, 3, 0), INDEX);
    }

    private static FigureHeads afterNoKind() {
        FigureHeads x = Due.with(NINE);
        Due.write(x, 0, 0, 0, 18, 3, 1);
        return x;
    }

    // ---- promise 32

    private static void odds(String what, FigureHeads x, int n, int cell, int q, int above, int below) {
        due(what + " q " + q + ": above", x.fog(0, 0, 0, n, cell, q, 0), above);
        due(what + " q " + q + ": below", x.fog(0, 0, 0, n, cell, q, 1), below);
    }

    private static void fogBounds() {
        int[][] tenths = {{0, 1}, {1, 10}, {1, 5}, {3, 10}, {2, 5}, {1, 2}, {3, 5}, {7, 10}, {4, 5}, {9, 10}, {1, 1}};
        int[][] sixth = {{0, 1}, {1, 1000000}, {1, 15625}, {729, 1000000}, {64, 15625}, {1, 64}, {729, 15625},
            {117649, 1000000}, {4096, 15625}, {531441, 1000000}, {1, 1}};
        for (int q = 0; q <= 10; q++) {
            Due.sentence(32, "FOG, q (0 to 10) of ten: each of n WORDS (1 to 6) is not heard, each by itself (she DRIFTS)");
            FigureHeads one = Due.with(NINE);
            Due.write(one, 0, 0, 1);
            odds("n 1, not heard", one, 1, 1, q, tenths[q][0], tenths[q][1]);
            odds("n 1, heard", one, 1, 8, q, tenths[10 - q][0], tenths[10 - q][1]);
            odds("n 1, neither", one, 1, 10, q, 0, 1);
            FigureHeads unheard = Due.with("f........;o01e0;9000");
            Due.write(unheard, 0, 0, 1, 1, 1, 1, 1, 1);
            odds("n 6, none is heard", unheard, 6, 7, q, sixth[q][0], sixth[q][1]);
            FigureHeads heard = Due.with("f.###/..##/#..#/##..;o00e0;9000");
            Due.write(heard, 0, 0, 2, 1, 2, 1, 2, 1);
            odds("n 6, all are heard", heard, 6, 27, q, sixth[10 - q][0], sixth[10 - q][1]);
            Due.sentence(32, "Parts are told in lowest terms: above (what 0), below (1).");
            odds("n 6, a rock", heard, 6, 1, q, 0, 1);
            FigureHeads sure = Due.with("f.;o00n0;9000");
            Due.write(sure, 0, 0, 0, 1, 2, 0, 1, 2);
            odds("n 6, surely", sure, 6, 0, q, 1, 1);
        }
    }

    private static void fogIsRefused() {
        Due.Made row = made(() -> words(0, 1, 2, 3, 0));
        Due.sentence(32, "the first n WORDS (1 .. 6) of a SHEET, taken as a row of bytes: INDEX; NOT: an item that should be a WORD and is none");
        Due.stays("n 3", row, x -> x.fog(0, 0, 0, 3, 9, 0, 1), 1);
        Due.stays("n 4: the last is 3", row, x -> x.fog(0, 0, 0, 4, 9, 5, 0), NOT);
        Due.stays("n 4, never heard", row, x -> x.fog(0, 0, 0, 4, 9, 10, 0), NOT);
        Due.stays("n 5", row, x -> x.fog(0, 0, 0, 5, 9, 5, 1), NOT);
        Due.stays("n 6 of 5", row, x -> x.fog(0, 0, 0, 6, 9, 5, 0), INDEX);
        Due.stays("-1", made(() -> words(-1, 0)), x -> x.fog(0, 0, 0, 1, 9, 5, 0), NOT);
        Due.stays("n 1 of 0", made(() -> words()), x -> x.fog(0, 0, 0, 1, 9, 5, 0), INDEX);
        Due.stays("n 6 of 6", made(() -> words(0, 0, 0, 0, 0, 0)), x -> x.fog(0, 0, 0, 6, 1, 5, 0), 1);
        Due.sentence(32, "BAD; NULL; CAST");
        Due.bad("n", row, 1, 6, (x, v) -> x.fog(0, 0, 0, v, 9, 5, 0));
        Due.bad("q", row, 0, 10, (x, v) -> x.fog(0, 0, 0, 1, 9, v, 0));
        Due.bad("what", row, 0, 1, (x, v) -> x.fog(0, 0, 0, 1, 9, 5, v));
        Due.bad("cell", row, 0, 18, (x, v) -> x.fog(0, 0, 0, 1, v, 5, 0));
        Due.stays("cell 3", row, x -> x.fog(0, 0, 0, 1, 3, 5, 0), BAD);
        Due.stays("cell 24", row, x -> x.fog(0, 0, 0, 1, 24, 5, 0), BAD);
        Due.bad("ship", row, 0, 0, (x, v) -> x.fog(v, 0, 0, 1, 9, 5, 0));
        Due.bad("teller", row, 0, 3, (x, v) -> x.fog(0, v, 0, 1, 9, 5, 0));
        Due.bad("sheet", row, 0, 3, (x, v) -> x.fog(0, 0, v, 1, 9, 5, 0));
        Due.stays("no fleet", Due.NO_FLEET, x -> x.fog(0, 0, 0, 1, 0, 5, 0), BAD);
        Due.stays("nothing", row, x -> x.fog(0, 0, 3, 1, 9, 5, 0), NULL);
        Due.stays("longs", row, x -> x.fog(0, 0, 1, 1, 9, 5, 0), CAST);
        Due.stays("ints", row, x -> x.fog(0, 0, 2, 1, 9, 5, 0), CAST);
        Due.stays("shorts", Due.IDLE, x -> x.fog(0, 0, 2, 1, 9, 5, 0), CAST);
        Due.sentence(32, "of several the first that a call names: BAD; NULL; CAST; INDEX; NOT");
        Due.stays("no fleet, nothing", Due.NO_FLEET, x -> x.fog(0, 0, 3, 1, 0, 5, 0), BAD);
        Due.bad("n, nothing", row, 1, 6, (x, v) -> x.fog(0, 0, 3, v, 9, 5, 0));
        Due.bad("n, longs", row, 1, 6, (x, v) -> x.fog(0, 0, 1, v, 9, 5, 0));
        Due.bad("q, nothing", row, 0, 10, (x, v) -> x.fog(0, 0, 3, 1, 9, v, 0));
        Due.bad("cell, no word", row, 0, 18, (x, v) -> x.fog(0, 0, 0, 4, v, 5, 0));
        Due.bad("what, too far", row, 0, 1, (x, v) -> x.fog(0, 0, 0, 6, 9, 5, v));
        Due.stays("longs, too far", row, x -> x.fog(0, 0, 1, 6, 9, 5, 0), CAST);
        Due.stays("too far, no word", row, x -> x.fog(0, 0, 0, 6, 9, 5, 1), INDEX);
    }

    // ---- promise 33

    private static void counts(String what, FigureHeads x, int... want) {
        for (int k = 0; k < want.length; k++) {
            due(what + ": count " + k, x.count(k), want[k]);
        }
    }

    private static void countBounds() {
        Due.sentence(33, "0 SHIPS, 1 columns, 2 rows, 3 the TURN, 4 WORM of all SHIPS together, 5 CREDIT of all TELLERS together, 6 HARBOURS, 7 SHIPS in a HARBOUR, as a set, 8 how many ACTS can be undone, 9 bytes of THE TAPE");
        String harbours = "foooooooo/oooooooo/oooooooo/oooooooo/oooooooo/oooooooo;";
        counts("the most", Due.with(harbours + "o00n5,o07n5,o50n5,o57n5,o22n5,o33n5;9999"), 6, 8, 6, 0, 30, 36, 48, 63, 0, 0);
        counts("the least", Due.with("f.;o00n0;0000"), 1, 1, 1, 0, 0, 0, 0, 0, 0, 0);
        counts("the last ship alone in a harbour", Due.with("f.o;o00n0,o00n0,o00n0,o00n0,o00n0,o01n1;0001"), 6, 2, 1, 0, 1, 1, 1, 32, 0, 0);
        FigureHeads x = Due.with("fo./.o;o00e0,o11n0;1111");
        counts("both in harbours", x, 2, 2, 2, 0, 0, 4, 2, 3, 0, 0);
        x.drift(0);
        counts("one has left", x, 2, 2, 2, 1, 0, 4, 2, 2, 1, 0);
        Due.sentence(33, "(but 9: 0 without a FLEET)");
        counts("no fleet", Due.fed(Due.sheeted(new FigureHeads()), "f.;o0"), 0, 0, 0, 0, 0, 0, 0, 0, 0, 5);
        FigureHeads fault = Due.fed(new FigureHeads(), "foo;o00n5,o01n5;999");
        fault.fleet();
        counts("a fault, no fleet", fault, 0, 0, 0, 0, 0, 0, 0, 0, 0, 0);
        FigureHeads full = new FigureHeads();
        for (int k = 0; k < 131; k++) {
            full.feed('f');
        }
        counts("a full tape, no fleet", full, 0, 0, 0, 0, 0, 0, 0, 0, 0, 130);
        Due.sentence(33, "BAD.");
        Due.bad("what", Due.BUSY, 0, 9, FigureHeads::count);
        Due.bad("what, no fleet", Due.NO_FLEET, 0, 9, FigureHeads::count);
        for (int what = 0; what < 10; what++) {
            int v = what;
            Due.stays("count " + v, Due.BUSY, y -> y.count(v), new int[] {5, 6, 3, 3, 3, 14, 2, 0, 5, 20}[v]);
        }
    }

    public static void main(String[] args) {
        sheetBounds();
        dropBounds();
        itemBits();
        itemBounds();
        copyBounds();
        copyIsRefused();
        logBounds();
        logIsRefused();
        rowsBounds();
        rowsIsRefused();
        kindsBounds();
        kindsIsRefused();
        fogBounds();
        fogIsRefused();
        countBounds();
        Due.end();
    }
}
