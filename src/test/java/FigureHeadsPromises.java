/** One part for each promise: ordinary calls, the edges that the document names, and wrong ones, worked out by hand. */
public final class FigureHeadsPromises {
    private static final int BAD = -1, NOT = -2, FULL = -3, NONE = -4, NULL = -11, CAST = -12, INDEX = -13, SIZE = -14;

    /**
     * <pre>
     *   . . # . o .      0  1  2  3  4  5     ships: 0 oak 8 e, 1 gilt 0 s worm 1, 2 deaf 13 w,
     *   . . . . . .      8  9 10 11 12 13            3 thomas 17 n worm 2, 4 mirror 10 e
     *   o . # . . .     16 17 18 19 20 21     credit: 6 3 0 5
     * </pre>
     */
    private static final String FIVE = "f..#.o./....../o.#...;o10e0,g00s1,d15w0,t21n2,m12e0;6305";
    private static final String POND = "f.;o00n5;9999";

    private static int wrong = 0;
    private static int calls = 0;

    private static void due(String what, long got, long want) {
        calls++;
        if (got != want) {
            wrong++;
            System.out.println(what + " answered " + got + ", due is " + want);
        }
    }

    private static FigureHeads fed(FigureHeads x, String tape) {
        for (int k = 0; k < tape.length(); k++) {
            x.feed(tape.charAt(k));
        }
        return x;
    }

    private static FigureHeads with(String tape) {
        FigureHeads x = fed(new FigureHeads(), tape);
        if (x.fleet() < 1) {
            wrong++;
            System.out.println("no fleet: " + tape);
        }
        return x;
    }

    private static void state(String what, FigureHeads x, int ship, int cell, int looking, int worm) {
        due(what + ", cell", x.ship(ship, 1), cell);
        due(what + ", looking", x.ship(ship, 2), looking);
        due(what + ", worm", x.ship(ship, 3), worm);
    }

    private static void credits(String what, FigureHeads x, int a, int b, int c, int d) {
        due(what + ", credit 0", x.credit(0), a);
        due(what + ", credit 1", x.credit(1), b);
        due(what + ", credit 2", x.credit(2), c);
        due(what + ", credit 3", x.credit(3), d);
    }

    private static void write(FigureHeads x, int sheet, int lane, long... items) {
        x.sheet(sheet, lane, items.length);
        for (int i = 0; i < items.length; i++) {
            x.item(sheet, lane, i, items[i]);
        }
    }

    private static void promise1() {
        FigureHeads x = new FigureHeads();
        for (int what = 0; what < 10; what++) {
            due("1 new: count " + what, x.count(what), 0);
        }
        due("1 new: ship", x.ship(0, 0), BAD);
        due("1 new: undo", x.undo(), NONE);
        due("1 new: restore", x.restore(1), NOT);
        due("1 new: drop", x.drop(0), NULL);
        due("1 new: sea", x.sea(0), BAD);
    }

    private static void promise2() {
        FigureHeads x = new FigureHeads();
        due("2 feed 0", x.feed(0), 1);
        due("2 feed 255", x.feed(255), 2);
        due("2 feed -1", x.feed(-1), BAD);
        due("2 feed 256", x.feed(256), BAD);
        for (int k = 3; k <= 130; k++) {
            due("2 feed " + k, x.feed('.'), k);
        }
        due("2 feed 131", x.feed('.'), FULL);
        due("2 bad ahead of full", x.feed(256), BAD);
        due("2 tape", x.count(9), 130);
        due("2 fault", x.fleet(), -100);
        due("2 empty then", x.count(9), 0);
        due("2 feed again", x.feed(1), 1);
    }

    private static void fault(String tape, int place) {
        FigureHeads x = with(POND);
        x.say(0, 0, 0);
        due("3 fault of " + tape, fed(x, tape).fleet(), -100 - place);
        due("3 tape behind " + tape, x.count(9), 0);
        due("3 fleet stays: " + tape, x.count(3), 1);
        due("3 acts stay: " + tape, x.count(8), 1);
        due("3 ship stays: " + tape, x.ship(0, 3), 5);
    }

    private static void promise3() {
        fault("", 0);
        fault("F.;o00n0;0000", 0);
        fault("f", 1);
        fault("f/", 1);
        fault("fx", 1);
        fault("f ", 1);
        fault("f./", 3);
        fault("f.//", 3);
        fault("f../;", 4);
        fault("f........o;", 9);
        fault("f........", 9);
        fault("f../...;", 6);
        fault("f.../../", 7);
        fault("f.../..x", 7);
        fault("f./././././.", 12);
        fault("f./././././.,", 12);
        fault("f./././././././.;o", 12);
        fault("f.;", 3);
        fault("f.;;", 3);
        fault("f.;h00n0;0000", 3);
        fault("f.;o", 4);
        fault("f.;o10n0;0000", 4);
        fault("f.;o/0n0;0000", 4);
        fault("f./.;o21n0;0000", 6);
        fault("f.;o0", 5);
        fault("f.;o01n0;0000", 5);
        fault("f.......;o07n0;0000", 11);
        fault("f........;o08n0;0000", 12);
        fault("f.#;o01n0;0000", 6);
        fault("f#;o00n0;0000", 5);
        fault("f.;o00", 6);
        fault("f.;o00N0;0000", 6);
        fault("f.;o00n", 7);
        fault("f.;o00n6;0000", 7);
        fault("f.;o00n0", 8);
        fault("f.;o00n0.", 8);
        fault("f.;o00n0,;", 9);
        fault("f.;o00n0,o00n0,o00n0,o00n0,o00n0,o00n0,o00n0;0000", 38);
        fault("f.;o00n0;", 9);
        fault("f.;o00n0;:000", 9);
        fault("f.;o00n0;000", 12);
        fault("f.;o00n0;000;", 12);
        fault("f.;o00n0;00000", 13);
        fault("f.;o00n0;0000" + (char) 0, 13);
        due("3 five ships", fed(new FigureHeads(), FIVE).fleet(), 5);
        due("3 six ships", fed(new FigureHeads(), "fo;o00n0,o00n0,o00n0,o00n0,o00n0,o00n0;0000").fleet(), 6);
        FigureHeads x = with("f......../......../......../......../......../.......o;o57s5;0190");
        due("3 the greatest sea: rows", x.count(2), 6);
        due("3 the greatest sea: columns", x.count(1), 8);
        due("3 the greatest sea: ship", x.ship(0, 1), 47);
        x.drift(0);
        x.image(0);
        x.sheet(2, 1, 7);
        x.decades(3, 5, 0);
        due("3 another fleet", fed(x, FIVE).fleet(), 5);
        due("3 turn 0", x.count(3), 0);
        due("3 nothing to undo", x.undo(), NONE);
        due("3 sheets stay", x.drop(2), 7);
        due("3 a cell of the sea before", x.sea(47), BAD);
        due("3 images stay", x.restore(0), 1);
        due("3 image's sea", x.sea(47), 2);
    }

    private static void promise4() {
        FigureHeads x = with(FIVE);
        int[][] want = {{1, 8, 1, 0}, {2, 0, 2, 1}, {3, 13, 3, 0}, {4, 17, 0, 2}, {5, 10, 1, 0}};
        for (int ship = 0; ship < 5; ship++) {
            for (int what = 0; what < 4; what++) {
                due("4 ship " + ship + " " + what, x.ship(ship, what), want[ship][what]);
            }
            due("4 what 4", x.ship(ship, 4), BAD);
            due("4 what -1", x.ship(ship, -1), BAD);
        }
        due("4 ship 5", x.ship(5, 0), BAD);
        due("4 ship -1", x.ship(-1, 0), BAD);
    }

    private static void promise5() {
        FigureHeads x = with(FIVE);
        String[] under = {"", "01", "012", "03", "014", "0125"};
        for (int ship = 0; ship < 5; ship++) {
            for (int kind = 0; kind < 6; kind++) {
                boolean is = under[x.ship(ship, 0)].indexOf('0' + kind) >= 0;
                due("5 " + ship + " as " + kind, x.as(ship, kind), is ? ship : CAST);
            }
            due("5 kind 6", x.as(ship, 6), BAD);
            due("5 kind -1", x.as(ship, -1), BAD);
        }
        due("5 ship 5", x.as(5, 0), BAD);
        due("5 ship -1", x.as(-1, 0), BAD);
        due("5 no fleet", new FigureHeads().as(0, 0), BAD);
    }

    private static void promise6() {
        FigureHeads x = with(FIVE);
        String cells = "..#.o.xx......xxo.#...xx";
        for (int cell = 0; cell < cells.length(); cell++) {
            due("6 sea " + cell, x.sea(cell), ".#o".indexOf(cells.charAt(cell)));
        }
        due("6 below", x.sea(24), BAD);
        due("6 -1", x.sea(-1), BAD);
        due("6 far", x.sea(Integer.MAX_VALUE), BAD);
        due("6 lowest", x.sea(Integer.MIN_VALUE), BAD);
    }

    private static void promise7() {
        FigureHeads x = with(FIVE);
        credits("7", x, 6, 3, 0, 5);
        due("7 teller 4", x.credit(4), BAD);
        due("7 teller -1", x.credit(-1), BAD);
        due("7 no fleet", new FigureHeads().credit(0), BAD);
    }

    private static void promise8() {
        FigureHeads x = with(FIVE);
        int[][] want = {{3, 3, 3, 3}, {2, 2, 2, 2}, {10, 10, 10, 10}, {2, 10, 10, 10}, {1, 1, 1, 1}};
        for (int ship = 0; ship < 5; ship++) {
            for (int teller = 0; teller < 4; teller++) {
                due("8 doubt " + ship + " " + teller, x.doubt(ship, teller), want[ship][teller]);
            }
        }
        due("8 teller 4", x.doubt(0, 4), BAD);
        due("8 teller -1", x.doubt(0, -1), BAD);
        due("8 ship 5", x.doubt(5, 0), BAD);
        due("8 ship -1", x.doubt(-1, 0), BAD);
        FigureHeads wormed = with("f.;o00n5,g00n5,d00n5,t00n5,m00n5;0000");
        int[] worst = {8, 6, 10, 5, 6};
        for (int ship = 0; ship < 5; ship++) {
            due("8 wormed " + ship, wormed.doubt(ship, 0), worst[ship]);
        }
    }

    private static void promise9() {
        FigureHeads x = with(FIVE);
        due("9 left of e is n", x.say(0, 0, 1), 0);
        state("9 left", x, 0, 0, 0, 0);
        credits("9 left", x, 7, 3, 0, 5);
        due("9 left of n is w: strikes", x.say(0, 0, 1), 0);
        state("9 strikes", x, 0, 0, 3, 1);
        credits("9 strikes", x, 5, 3, 0, 5);
        due("9 left of w is s", x.say(0, 0, 1), 8);
        due("9 left of s is e", x.say(0, 0, 1), 9);
        due("9 right of e is s", x.say(0, 0, 2), 17);
        due("9 right of s is w", x.say(0, 0, 2), 16);
        due("9 right of w is n", x.say(0, 0, 2), 8);
        due("9 right of n is e", x.say(0, 0, 2), 9);
        credits("9 nine at most", x, 9, 3, 0, 5);
        due("9 not believed, she goes", x.say(0, 1, 1), 10);
        state("9 not believed", x, 0, 10, 1, 1);
        credits("9 not believed", x, 9, 3, 0, 5);
        due("9 turn", x.count(3), 9);
        due("9 others stay", x.ship(1, 1), 0);
        due("9 mirror: left is right, a rock", x.say(4, 3, 1), 10);
        state("9 mirror", x, 4, 10, 2, 1);
        due("9 mirror: right is left", x.say(4, 3, 2), 11);
        credits("9 mirror", x, 9, 3, 0, 4);
        due("9 deaf", x.say(2, 0, 2), 12);
        due("9 thomas, another teller", x.say(3, 3, 2), 9);
        due("9 thomas", x.say(3, 0, 1), 8);
        FigureHeads low = with("f.;g00n0;1119");
        due("9 strikes, credit 1", low.say(0, 0, 0), 0);
        credits("9 zero at least", low, 0, 1, 1, 9);
        for (int k = 0; k < 6; k++) {
            low.say(0, 0, 1);
        }
        state("9 worm 5 at most", low, 0, 0, 0, 5);
        due("9 ship", low.say(1, 0, 0), BAD);
        due("9 ship -1", low.say(-1, 0, 0), BAD);
        due("9 teller", low.say(0, 4, 0), BAD);
        due("9 teller -1", low.say(0, -1, 0), BAD);
        due("9 word", low.say(0, 0, 3), BAD);
        due("9 word -1", low.say(0, 0, -1), BAD);
        due("9 refused is no act", low.count(8), 7);
        due("9 no fleet", new FigureHeads().say(0, 0, 0), BAD);
    }

    private static void promise10() {
        FigureHeads x = with(FIVE);
        due("10 two things", x.storm(0, 0, 1, 3, 2), 8);
        state("10 two things", x, 0, 8, 1, 1);
        credits("10 two things", x, 5, 3, 0, 4);
        due("10 still is a word", x.storm(0, 0, 0, 3, 1), 8);
        credits("10 still is a word", x, 4, 3, 0, 3);
        due("10 turn", x.count(3), 2);
        x = with(FIVE);
        due("10 alike", x.storm(0, 0, 1, 3, 1), 0);
        credits("10 alike", x, 7, 3, 0, 6);
        due("10 alike, strikes", x.storm(0, 3, 1, 0, 1), 0);
        state("10 alike, strikes", x, 0, 0, 3, 1);
        credits("10 alike, strikes", x, 5, 3, 0, 4);
        x = with(FIVE);
        due("10 the first is believed", x.storm(0, 0, 2, 2, 1), 16);
        credits("10 the first is believed", x, 7, 3, 0, 5);
        x = with(FIVE);
        due("10 the second is believed", x.storm(0, 2, 2, 1, 1), 0);
        credits("10 the second is believed", x, 6, 4, 0, 5);
        x = with(FIVE);
        due("10 neither", x.storm(2, 0, 1, 1, 2), 12);
        credits("10 neither", x, 6, 3, 0, 5);
        due("10 mirror", x.storm(4, 0, 0, 1, 0), 11);
        due("10 mirror: left is right", x.storm(4, 0, 1, 1, 1), 19);
        x = with("f.;m00n4,m00n0;9900");
        due("10 zero, five", x.storm(1, 2, 1, 3, 1), 0);
        for (int k = 0; k < 4; k++) {
            x.storm(0, 0, 1, 1, 2);
        }
        state("10 worm 5 at most", x, 0, 0, 0, 5);
        credits("10 while both are believed", x, 5, 5, 0, 0);
        due("10 like tellers", x.storm(0, 1, 0, 1, 0), BAD);
        due("10 ship", x.storm(2, 0, 0, 1, 0), BAD);
        due("10 teller", x.storm(0, 4, 0, 1, 0), BAD);
        due("10 word", x.storm(0, 0, 3, 1, 0), BAD);
        due("10 other", x.storm(0, 0, 0, -1, 0), BAD);
        due("10 another", x.storm(0, 0, 0, 1, -1), BAD);
    }

    private static void promise11() {
        FigureHeads x = with(FIVE);
        due("11 drift", x.drift(1), 8);
        due("11 drift on", x.drift(1), 16);
        due("11 strikes", x.drift(1), 16);
        state("11 strikes", x, 1, 16, 2, 2);
        credits("11", x, 6, 3, 0, 5);
        due("11 turn", x.count(3), 3);
        due("11 ship 5", x.drift(5), BAD);
        due("11 ship -1", x.drift(-1), BAD);
    }

    private static void promise12() {
        FigureHeads x = with(FIVE);
        due("12 scrape", x.scrape(3), 1);
        due("12 scrape", x.scrape(3), 0);
        due("12 not", x.scrape(3), NOT);
        due("12 no turn", x.count(3), 0);
        due("12 acts", x.count(8), 2);
        due("12 ship 5", x.scrape(5), BAD);
        due("12 ship -1", x.scrape(-1), BAD);
    }

    private static void promise13() {
        FigureHeads x = with("f.;o00n0;0080");
        due("13 learn", x.learn(2), 9);
        due("13 not", x.learn(2), NOT);
        due("13 learn", x.learn(3), 1);
        due("13 no turn", x.count(3), 0);
        due("13 acts", x.count(8), 2);
        due("13 teller 4", x.learn(4), BAD);
        due("13 teller -1", x.learn(-1), BAD);
        due("13 no fleet", new FigureHeads().learn(0), BAD);
    }

    private static void promise14() {
        FigureHeads x = with(FIVE);
        x.say(0, 0, 1);
        x.storm(0, 0, 1, 3, 2);
        x.learn(2);
        x.scrape(3);
        x.drift(4);
        due("14 drift undone", x.undo(), 4);
        state("14 drift undone", x, 4, 10, 1, 0);
        due("14 turn too", x.count(3), 2);
        due("14 scrape undone", x.undo(), 3);
        due("14 scrape undone", x.ship(3, 3), 2);
        due("14 learn undone", x.undo(), 2);
        due("14 learn undone", x.credit(2), 0);
        due("14 storm undone", x.undo(), 1);
        state("14 storm undone", x, 0, 0, 0, 0);
        credits("14 storm undone", x, 7, 3, 0, 5);
        due("14 say undone", x.undo(), 0);
        state("14 say undone", x, 0, 8, 1, 0);
        credits("14 say undone", x, 6, 3, 0, 5);
        due("14 none", x.undo(), NONE);
        due("14 turn 0", x.count(3), 0);
        for (int k = 0; k < 30; k++) {
            x.drift(0);
        }
        due("14 the latest 24", x.count(8), 24);
        for (int k = 23; k >= 0; k--) {
            due("14 undone", x.undo(), k);
        }
        due("14 no more", x.undo(), NONE);
        due("14 six stay", x.count(3), 6);
        state("14 six stay", x, 0, 13, 1, 1);
    }

    private static void promise15and16() {
        FigureHeads x = with(FIVE);
        due("16 none kept", x.restore(0), NOT);
        due("15 image", x.image(0), 0);
        x.say(0, 0, 1);
        x.learn(1);
        due("15 image", x.image(1), 1);
        due("15 acts stay", x.count(8), 2);
        x.drift(1);
        due("16 restore", x.restore(1), 1);
        due("16 ship", x.ship(1, 1), 0);
        state("16 ship", x, 0, 0, 0, 0);
        credits("16 restore", x, 7, 4, 0, 5);
        due("16 nothing to undo", x.undo(), NONE);
        fed(x, POND).fleet();
        due("16 of the fleet before", x.restore(0), 0);
        due("16 ships", x.count(0), 5);
        credits("16 restore", x, 6, 3, 0, 5);
        due("16 again", x.restore(1), 1);
        due("16 sea", x.sea(21), 0);
        x.drift(0);
        due("15 anew", x.image(1), 2);
        x.drift(0);
        due("16 anew", x.restore(1), 2);
        due("15 k 2", x.image(2), BAD);
        due("15 k -1", x.image(-1), BAD);
        due("16 k 2", x.restore(2), BAD);
        due("16 k -1", x.restore(-1), BAD);
        due("15 no fleet", new FigureHeads().image(1), NOT);
        due("15 bad ahead of not", new FigureHeads().image(2), BAD);
        due("16 bad ahead of not", new FigureHeads().restore(2), BAD);
    }

    private static void promise17() {
        FigureHeads x = with(FIVE);
        due("17 teller 0", x.believed(0), 27);
        due("17 as much is enough", x.believed(1), 19);
        due("17 teller 2", x.believed(2), 0);
        due("17 teller 3", x.believed(3), 19);
        due("17 teller 4", x.believed(4), BAD);
        due("17 teller -1", x.believed(-1), BAD);
        due("17 no fleet", new FigureHeads().believed(0), BAD);
    }

    private static void promise18() {
        FigureHeads x = with(FIVE);
        int[] want = {6, 3, 6, 3, 4};
        for (int ship = 0; ship < 5; ship++) {
            due("18 ship " + ship, x.strikes(ship), want[ship]);
        }
        due("18 nothing changes", x.count(4), 3);
        due("18 at once", with(POND).strikes(0), 1);
        due("18 longest", with("f........;d00e0;0000").strikes(0), 8);
        due("18 rock", with("f..#.....;d00e0;0000").strikes(0), 2);
        due("18 ship 5", x.strikes(5), BAD);
        due("18 ship -1", x.strikes(-1), BAD);
    }

    private static void courseIs(FigureHeads x, int ship, int teller, int cell, int... words) {
        String what = "19 course of " + ship + " by " + teller + " to " + cell;
        due(what, x.course(ship, teller, cell, -1), words.length);
        for (int k = 0; k < words.length; k++) {
            due(what + ", word " + k, x.course(ship, teller, cell, k), words[k]);
        }
        due(what + ", no word", x.course(ship, teller, cell, words.length), NONE);
        due(what + ", no word", x.course(ship, teller, cell, Integer.MAX_VALUE), NONE);
    }

    private static void promise19() {
        FigureHeads x = with(FIVE);
        courseIs(x, 0, 0, 4, 0, 0, 0, 0, 1);
        courseIs(x, 0, 0, 8);
        courseIs(x, 0, 2, 13, 0, 0, 0, 0, 0);
        courseIs(x, 2, 0, 8, 0, 0, 0, 0, 0);
        courseIs(x, 4, 0, 16, 0, 0, 1, 1, 1, 2, 0, 0, 2);
        due("19 none", x.course(0, 2, 4, -1), NONE);
        due("19 none", x.course(0, 2, 4, 0), NONE);
        due("19 rock", x.course(0, 0, 2, -1), NOT);
        due("19 bad ahead of not", x.course(0, 0, 2, -2), BAD);
        due("19 k -2", x.course(0, 0, 8, -2), BAD);
        due("19 no cell", x.course(0, 0, 6, -1), BAD);
        due("19 no cell", x.course(0, 0, 24, -1), BAD);
        due("19 cell -1", x.course(0, 0, -1, -1), BAD);
        due("19 teller 4", x.course(0, 4, 8, -1), BAD);
        due("19 ship 5", x.course(5, 0, 8, -1), BAD);
        due("19 nothing changes", x.count(5), 14);
    }

    private static void promise20() {
        FigureHeads x = with(FIVE);
        int[] want = {0, 1, NONE, NONE, 3};
        due("20 how many", x.crew(-1), 3);
        for (int ship = 0; ship < 5; ship++) {
            due("20 ship " + ship, x.crew(ship), want[ship]);
        }
        FigureHeads two = with("f.;o00n0,t00n0;9900");
        due("20 two", two.crew(-1), 2);
        due("20 gives way", two.crew(0), 1);
        due("20 thomas", two.crew(1), 0);
        due("20 ship 2", two.crew(2), BAD);
        due("20 ship -2", two.crew(-2), BAD);
        due("20 none at all", with("f.;d00n0;9999").crew(-1), 0);
        due("20 no fleet", new FigureHeads().crew(-1), NOT);
        due("20 no ship", new FigureHeads().crew(0), BAD);
    }

    private static void promise21and22() {
        FigureHeads x = with(FIVE);
        due("21 d 0", x.hears(0, 0), 1);
        due("21 d 1", x.hears(0, 1), 3);
        due("21 d 2", x.hears(0, 2), 27);
        due("21 by way of another", x.hears(1, 2), 27);
        due("21 alone", x.hears(2, 2), 4);
        due("21 d 3", x.hears(0, 3), 31);
        due("21 d 12", x.hears(4, 12), 31);
        due("21 d 13", x.hears(0, 13), BAD);
        due("21 d -1", x.hears(0, -1), BAD);
        due("21 ship 5", x.hears(5, 0), BAD);
        due("21 ship -1", x.hears(-1, 0), BAD);
        due("21 one cell", with("f..;o00n0,o01n0,o00n0;0000").hears(2, 0), 5);
        due("22 d 0", x.links(0), 0);
        due("22 d 1", x.links(1), 0);
        due("22 d 2", x.links(2), 1);
        due("22 d 3", x.links(3), 16);
        due("22 d 12", x.links(12), 0);
        due("22 d 13", x.links(13), BAD);
        due("22 d -1", x.links(-1), BAD);
        due("22 a chain", with("f......;o00n0,o01n0,o02n0,o03n0,o04n0,o05n0;0000").links(1), 30);
        due("22 no fleet", new FigureHeads().links(0), NOT);
        due("22 bad ahead of not", new FigureHeads().links(13), BAD);
    }

    private static void promise23() {
        FigureHeads x = with(FIVE);
        due("23 no words", x.talk(0, 0, 3, 0), 1);
        due("23 a word each", x.talk(0, 0, 3, 1), 1);
        due("23 deaf", x.talk(2, 0, 1, 2), 2);
        due("23 deaf", x.talk(2, 0, 1, 3), 1);
        due("23 who is not believed", x.talk(0, 2, 3, 1), 3);
        due("23 like tellers", x.talk(0, 0, 0, 1), BAD);
        due("23 n 4", x.talk(0, 0, 1, 4), BAD);
        due("23 n -1", x.talk(0, 0, 1, -1), BAD);
        due("23 a", x.talk(0, 4, 1, 0), BAD);
        due("23 b", x.talk(0, 0, -1, 0), BAD);
        due("23 ship", x.talk(5, 0, 1, 0), BAD);
        due("23 no harbour", with(POND).talk(0, 0, 1, 1), NONE);
        due("23 bad ahead of none", with(POND).talk(0, 1, 1, 1), BAD);
        due("23 nothing changes", x.count(5), 14);
    }

    private static void promise24() {
        FigureHeads x = with(FIVE);
        due("24 no turns", x.decades(0, 1, 0), 3);
        due("24 no turns", x.decades(0, 1, 1), 14);
        // X is 16807: ship 2, deaf, drifts.
        due("24 one turn", x.decades(1, 1, 0), 3);
        due("24 one turn", x.decades(1, 1, 1), 14);
        // X is 33614: ship 4, teller 0, word 2: a mirror turns n, strikes a rock; 33614 / 4096 is 8.
        due("24 strikes", x.decades(1, 2, 0), 4);
        due("24 strikes", x.decades(1, 2, 1), 12);
        // X is 117649: ship 4, teller 1, word 0: to 11; 117649 / 4096 is 28, but there is no worm.
        due("24 no worm", x.decades(1, 7, 0), 3);
        due("24 no worm", x.decades(1, 7, 1), 15);
        // X is 117649: ship 0 of one, teller 1, word 0: strikes, worm 5, scraped.
        due("24 scraped", with(POND).decades(1, 7, 0), 4);
        due("24 scraped", with(POND).decades(1, 7, 1), 34);
        due("24 nothing changes", x.count(4), 3);
        due("24 n 60", with(POND).decades(60, 999999, 0) >= 0 ? 1 : 0, 1);
        due("24 n 61", x.decades(61, 1, 0), BAD);
        due("24 n -1", x.decades(-1, 1, 0), BAD);
        due("24 seed 0", x.decades(1, 0, 0), BAD);
        due("24 seed 1000000", x.decades(1, 1000000, 0), BAD);
        due("24 what 2", x.decades(1, 1, 2), BAD);
        due("24 what -1", x.decades(1, 1, -1), BAD);
        due("24 no fleet", new FigureHeads().decades(1, 1, 0), NOT);
        due("24 bad ahead of not", new FigureHeads().decades(61, 1, 0), BAD);
    }

    private static void promise25and26() {
        FigureHeads x = new FigureHeads();
        due("25 sheet", x.sheet(0, 0, 24), 24);
        due("25 of none", x.sheet(3, 3, 0), 0);
        due("25 n 25", x.sheet(0, 0, 25), BAD);
        due("25 n -1", x.sheet(0, 0, -1), SIZE);
        due("25 lowest", x.sheet(0, 0, Integer.MIN_VALUE), SIZE);
        due("25 sheet 4", x.sheet(4, 0, -1), BAD);
        due("25 sheet -1", x.sheet(-1, 0, 1), BAD);
        due("25 lane 4", x.sheet(0, 4, -1), BAD);
        due("25 lane -1", x.sheet(0, -1, 1), BAD);
        due("25 stays", x.item(0, 0, 23, 7), 7);
        due("25 anew", x.sheet(0, 2, 24), 24);
        x.sheet(1, 2, 1);
        x.copy(0, 23, 1, 0, 1);
        due("25 items are 0", sumOf(x, 0, 2, 24), 0);
        due("26 drop", x.drop(0), 24);
        due("26 null", x.drop(0), NULL);
        due("26 of none", x.drop(3), 0);
        due("26 null then", x.drop(3), NULL);
        due("26 sheet 4", x.drop(4), BAD);
        due("26 sheet -1", x.drop(-1), BAD);
        due("26 item", x.item(0, 2, 0, 1), NULL);
    }

    /** Items can be seen in the words that a fleet takes: here by a log of each that must be word 0. */
    private static long sumOf(FigureHeads x, int sheet, int lane, int n) {
        fed(x, "f.;d00n0;0000").fleet();
        long sum = 0;
        for (int i = 0; i < n; i++) {
            sum += x.log(0, 0, sheet, lane, i, 1) == 1 ? 0 : 1;
        }
        return sum;
    }

    private static void promise27() {
        FigureHeads x = new FigureHeads();
        for (int lane = 0; lane < 4; lane++) {
            x.sheet(lane, lane, 3);
        }
        long v = 0x123456789ABCDEF0L;
        due("27 byte", x.item(0, 0, 0, v), -16);
        due("27 short", x.item(1, 1, 1, v), -8464);
        due("27 int", x.item(2, 2, 2, v), 0x9ABCDEF0);
        due("27 long", x.item(3, 3, 0, v), v);
        due("27 byte 127", x.item(0, 0, 2, 127), 127);
        due("27 byte 128", x.item(0, 0, 2, 128), -128);
        due("27 short 32768", x.item(1, 1, 0, 32768), -32768);
        due("27 long least", x.item(3, 3, 1, Long.MIN_VALUE), Long.MIN_VALUE);
        due("27 index", x.item(0, 0, 3, 1), INDEX);
        due("27 index -1", x.item(0, 0, -1, 1), INDEX);
        due("27 index far", x.item(0, 0, Integer.MAX_VALUE, 1), INDEX);
        due("27 cast ahead of index", x.item(0, 1, 3, 1), CAST);
        due("27 null ahead of cast", new FigureHeads().item(0, 1, 3, 1), NULL);
        due("27 sheet 4", x.item(4, 0, 0, 1), BAD);
        due("27 sheet -1", x.item(-1, 0, 0, 1), BAD);
        due("27 lane 4", x.item(0, 4, 0, 1), BAD);
        due("27 lane -1", x.item(0, -1, 0, 1), BAD);
        due("27 bad ahead of null", new FigureHeads().item(0, 4, 0, 1), BAD);
    }

    private static void promise28() {
        FigureHeads x = with(FIVE);
        write(x, 0, 0, 0, 1, 2, 2);
        due("28 forward over itself", x.copy(0, 0, 0, 1, 3), 3);
        due("28 words are 0 0 1 2", x.log(0, 0, 0, 0, 0, 4), 4);
        // Each cell is looked at as the only row that leads there: 9, 10, then north to a rock, then east.
        write(x, 1, 0, 9, 10, 10, 11);
        due("28 the first three", x.rows(0, 0, 1, 0, 0, 3, 1), 1);
        write(x, 1, 0, 0, 0, 0, 0);
        due("28 another", x.copy(0, 0, 1, 0, 4), 4);
        due("28 it has the log's cells", x.rows(0, 0, 1, 0, 0, 4, 1), 5);
        write(x, 2, 3, 5, 6);
        due("28 none", x.copy(0, 4, 1, 4, 0), 0);
        due("28 unlike lanes", x.copy(0, 0, 2, 0, 1), CAST);
        due("28 cast ahead of index", x.copy(0, -1, 2, 0, 1), CAST);
        due("28 null", x.copy(0, 0, 3, 0, 1), NULL);
        due("28 null from", x.copy(3, 0, 0, 0, 1), NULL);
        due("28 bad ahead of null", x.copy(3, 0, 4, 0, 1), BAD);
        due("28 bad from", x.copy(-1, 0, 0, 0, 1), BAD);
        due("28 n -1", x.copy(0, 0, 1, 0, -1), INDEX);
        due("28 n 5", x.copy(0, 0, 1, 0, 5), INDEX);
        due("28 i", x.copy(0, 2, 1, 0, 3), INDEX);
        due("28 j", x.copy(0, 0, 1, 2, 3), INDEX);
        due("28 i -1", x.copy(0, -1, 1, 0, 1), INDEX);
        due("28 j -1", x.copy(0, 0, 1, -1, 1), INDEX);
        due("28 i behind", x.copy(0, 5, 1, 0, 0), INDEX);
        due("28 far", x.copy(0, Integer.MAX_VALUE, 1, 0, Integer.MAX_VALUE), INDEX);
        due("28 far", x.copy(0, 1, 1, 1, Integer.MAX_VALUE), INDEX);
    }

    private static void promise29() {
        FigureHeads x = with(FIVE);
        write(x, 0, 2, 7, 0, 1, 2, 2, 7);
        due("29 log", x.log(0, 0, 0, 2, 1, 4), 4);
        due("29 nothing changes", x.ship(0, 1), 8);
        credits("29 nothing changes", x, 6, 3, 0, 5);
        // 0 to 9, left to 1, right strikes at 1, right to 9: as many rows lead there.
        due("29 the cells", x.rows(0, 0, 0, 2, 1, 4, 0), 1);
        due("29 the words", x.rows(0, 0, 0, 2, 1, 4, 1), 17);
        due("29 no word", x.log(0, 0, 0, 2, 0, 1), NOT);
        due("29 no word", x.log(0, 0, 0, 2, 5, 1), NOT);
        write(x, 1, 3, 0, 1, 1L << 32);
        due("29 no word, all stays", x.log(0, 0, 1, 3, 0, 3), NOT);
        due("29 all stays", x.log(0, 0, 1, 3, 0, 2), 2);
        write(x, 1, 0, 0, -1);
        due("29 -1 is no word", x.log(0, 0, 1, 0, 0, 2), NOT);
        x.sheet(3, 1, 24);
        due("29 n 24", x.log(0, 0, 3, 1, 0, 24), 24);
        due("29 n 25", x.log(0, 0, 3, 1, 0, 25), BAD);
        due("29 n 0", x.log(0, 0, 3, 1, 0, 0), BAD);
        due("29 index", x.log(0, 0, 1, 0, 1, 2), INDEX);
        due("29 index -1", x.log(0, 0, 1, 0, -1, 1), INDEX);
        due("29 index ahead of not", x.log(0, 0, 1, 0, 1, 24), INDEX);
        due("29 cast ahead of index", x.log(0, 0, 1, 1, 1, 24), CAST);
        due("29 null ahead of cast", x.log(0, 0, 2, 1, 1, 24), NULL);
        due("29 bad ahead of null", x.log(0, 4, 2, 1, 1, 24), BAD);
        due("29 ship", x.log(5, 0, 1, 0, 0, 1), BAD);
        due("29 sheet", x.log(0, 0, 4, 0, 0, 1), BAD);
        due("29 lane", x.log(0, 0, 1, 4, 0, 1), BAD);
    }

    private static void promise30() {
        FigureHeads x = with(FIVE);
        write(x, 0, 1, 99, 9, 1, 10, 11, 12, 13, 13);
        due("30 one row", x.rows(0, 0, 0, 1, 1, 2, 0), 1);
        due("30 the first", x.rows(0, 0, 0, 1, 1, 2, 1), 1);
        due("30 not believed", x.rows(0, 2, 0, 1, 1, 1, 0), 3);
        due("30 none", x.rows(0, 2, 0, 1, 1, 2, 0), 0);
        due("30 none", x.rows(0, 2, 0, 1, 1, 2, 1), NONE);
        due("30 no cell", x.rows(0, 0, 0, 1, 0, 1, 0), 0);
        due("30 no cell", x.rows(0, 0, 0, 1, 0, 1, 1), NONE);
        write(x, 1, 3, 9, 10, 11, 12, 13, 13);
        due("30 six, all rows", x.rows(0, 2, 1, 3, 0, 6, 0), 729);
        due("30 six, the first", x.rows(0, 2, 1, 3, 0, 6, 1), 0);
        // Believed, only still goes east; east of 13 is nothing, but left leads to 5 and right to 21.
        due("30 six, one", x.rows(0, 0, 1, 3, 0, 6, 0), 1);
        write(x, 1, 3, 9 + (1L << 32));
        due("30 a long is no cell", x.rows(0, 0, 1, 3, 0, 1, 0), 0);
        due("30 n 7", x.rows(0, 0, 0, 1, 0, 7, 0), BAD);
        due("30 n 0", x.rows(0, 0, 0, 1, 0, 0, 0), BAD);
        due("30 what 2", x.rows(0, 0, 0, 1, 0, 1, 2), BAD);
        due("30 what -1", x.rows(0, 0, 0, 1, 0, 1, -1), BAD);
        due("30 ship", x.rows(5, 0, 0, 1, 0, 1, 0), BAD);
        due("30 teller", x.rows(0, 4, 0, 1, 0, 1, 0), BAD);
        due("30 sheet", x.rows(0, 0, 4, 1, 0, 1, 0), BAD);
        due("30 lane", x.rows(0, 0, 0, 4, 0, 1, 0), BAD);
        due("30 index", x.rows(0, 0, 0, 1, 3, 6, 0), INDEX);
        due("30 index -1", x.rows(0, 0, 0, 1, -1, 1, 0), INDEX);
        due("30 cast ahead of index", x.rows(0, 0, 0, 2, 8, 1, 0), CAST);
        due("30 null ahead of cast", x.rows(0, 0, 2, 2, 8, 1, 0), NULL);
        due("30 bad ahead of null", x.rows(0, 0, 2, 2, 8, 7, 0), BAD);
        // Wormed 5, credit 9: believed, strikes, credit 7: not any more; all stays where it is.
        FigureHeads pond = with(POND);
        pond.sheet(0, 0, 6);
        due("30 striking or not", pond.rows(0, 0, 0, 0, 0, 6, 0), 729);
    }

    private static void promise31() {
        FigureHeads x = with(FIVE);
        write(x, 0, 0, 1, 0, 1, 9, 1, 16, 1, 5, 0, 9);
        due("31 oak, gilt, thomas", x.kinds(0, 0, 0, 0, 0, 1, 0), 22);
        due("31 deaf", x.kinds(0, 0, 0, 0, 2, 1, 0), 8);
        due("31 mirror", x.kinds(0, 0, 0, 0, 4, 1, 0), 32);
        due("31 no kind", x.kinds(0, 0, 0, 0, 6, 1, 0), 0);
        due("31 all kinds", x.kinds(0, 1, 0, 0, 8, 1, 0), 62);
        due("31 try, all alike", x.kinds(0, 0, 0, 0, 0, 1, 1), 0);
        due("31 try", x.kinds(0, 1, 0, 0, 8, 1, 1), 1);
        due("31 try, no kind", x.kinds(0, 0, 0, 0, 6, 1, 1), NONE);
        due("31 two pairs", x.kinds(0, 0, 0, 0, 0, 2, 0), 0);
        due("31 nothing changes", x.ship(0, 0), 1);
        write(x, 1, 3, 0, 9, 3, 10);
        due("31 no word", x.kinds(0, 0, 1, 3, 0, 2, 0), NOT);
        due("31 no word in no kind's way", x.kinds(0, 0, 1, 3, 2, 1, 1), NOT);
        due("31 a cell is no word", x.kinds(0, 0, 1, 3, 1, 1, 0), NOT);
        write(x, 1, 3, 0, 9 + (1L << 32));
        due("31 a long is no cell", x.kinds(0, 0, 1, 3, 0, 1, 0), 0);
        x.sheet(2, 1, 20);
        due("31 n 10", x.kinds(0, 0, 2, 1, 0, 10, 0), 0);
        due("31 n 11", x.kinds(0, 0, 2, 1, 0, 11, 0), BAD);
        due("31 n 0", x.kinds(0, 0, 2, 1, 0, 0, 0), BAD);
        due("31 what 2", x.kinds(0, 0, 2, 1, 0, 1, 2), BAD);
        due("31 ship", x.kinds(5, 0, 2, 1, 0, 1, 0), BAD);
        due("31 teller", x.kinds(0, -1, 2, 1, 0, 1, 0), BAD);
        due("31 sheet", x.kinds(0, 0, -1, 1, 0, 1, 0), BAD);
        due("31 lane", x.kinds(0, 0, 2, -1, 0, 1, 0), BAD);
        due("31 index", x.kinds(0, 0, 2, 1, 1, 10, 0), INDEX);
        due("31 index: a pair's cell", x.kinds(0, 0, 2, 1, 19, 1, 0), INDEX);
        due("31 cast ahead of index", x.kinds(0, 0, 2, 2, 19, 1, 0), CAST);
        due("31 null ahead of cast", x.kinds(0, 0, 3, 2, 19, 1, 0), NULL);
        due("31 bad ahead of null", x.kinds(0, 0, 3, 2, 19, 1, -1), BAD);
    }

    private static void odds(FigureHeads x, int n, int cell, int q, int above, int below) {
        String what = "32 fog of " + n + " to " + cell + " by " + q;
        due(what + ", above", x.fog(0, 0, 0, n, cell, q, 0), above);
        due(what + ", below", x.fog(0, 0, 0, n, cell, q, 1), below);
    }

    private static void promise32() {
        FigureHeads x = with(FIVE);
        write(x, 0, 0, 1, 2, 0, 0, 0, 0, 3);
        odds(x, 1, 0, 5, 1, 2);
        odds(x, 1, 9, 3, 3, 10);
        odds(x, 1, 0, 3, 7, 10);
        odds(x, 1, 0, 0, 1, 1);
        odds(x, 1, 9, 10, 1, 1);
        odds(x, 1, 9, 0, 0, 1);
        odds(x, 1, 2, 5, 0, 1);
        odds(x, 2, 0, 4, 6, 25);
        odds(x, 2, 1, 4, 9, 25);
        odds(x, 2, 17, 4, 6, 25);
        odds(x, 2, 10, 4, 4, 25);
        odds(x, 6, 13, 10, 1, 1);
        due("32 nothing changes", x.ship(0, 1), 8);
        write(x, 1, 1, 0, 0);
        due("32 n 7", x.fog(0, 0, 0, 7, 0, 5, 0), BAD);
        due("32 n 0", x.fog(0, 0, 0, 0, 0, 5, 0), BAD);
        due("32 no cell", x.fog(0, 0, 0, 1, 6, 5, 0), BAD);
        due("32 q 11", x.fog(0, 0, 0, 1, 0, 11, 0), BAD);
        due("32 q -1", x.fog(0, 0, 0, 1, 0, -1, 0), BAD);
        due("32 what 2", x.fog(0, 0, 0, 1, 0, 5, 2), BAD);
        due("32 ship", x.fog(5, 0, 0, 1, 0, 5, 0), BAD);
        due("32 teller", x.fog(0, 4, 0, 1, 0, 5, 0), BAD);
        due("32 sheet", x.fog(0, 0, 4, 1, 0, 5, 0), BAD);
        due("32 cast ahead of index", x.fog(0, 0, 1, 3, 0, 5, 0), CAST);
        due("32 null", x.fog(0, 0, 2, 1, 0, 5, 0), NULL);
        due("32 bad ahead of null", x.fog(0, 0, 2, 1, 0, 5, -1), BAD);
        write(x, 0, 0, 1, 3);
        due("32 index ahead of not", x.fog(0, 0, 0, 3, 0, 5, 0), INDEX);
        due("32 no word", x.fog(0, 0, 0, 2, 0, 10, 0), NOT);
        due("32 behind n all is free", x.fog(0, 0, 0, 1, 0, 5, 0), 1);
    }

    private static void promise33() {
        FigureHeads x = fed(with(FIVE), "abc");
        int[] want = {5, 6, 3, 0, 3, 14, 2, 0, 0, 3};
        for (int what = 0; what < 10; what++) {
            due("33 count " + what, x.count(what), want[what]);
        }
        x.drift(1);
        x.drift(1);
        x.learn(0);
        due("33 turn", x.count(3), 2);
        due("33 credit", x.count(5), 15);
        due("33 in a harbour", x.count(7), 2);
        due("33 acts", x.count(8), 3);
        due("33 what 10", x.count(10), BAD);
        due("33 what -1", x.count(-1), BAD);
        due("33 the tape without a fleet", fed(new FigureHeads(), "ab").count(9), 2);
        due("33 all in one", with("fo.;o00n1,g00n2,m01n3,t00n4;1234").count(7), 11);
    }

    public static void main(String[] args) {
        promise1();
        promise2();
        promise3();
        promise4();
        promise5();
        promise6();
        promise7();
        promise8();
        promise9();
        promise10();
        promise11();
        promise12();
        promise13();
        promise14();
        promise15and16();
        promise17();
        promise18();
        promise19();
        promise20();
        promise21and22();
        promise23();
        promise24();
        promise25and26();
        promise27();
        promise28();
        promise29();
        promise30();
        promise31();
        promise32();
        promise33();
        System.out.println(calls + " calls, " + wrong + " not as due");
        if (wrong != 0) {
            System.exit(1);
        }
    }
}
