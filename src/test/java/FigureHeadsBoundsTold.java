/** Promises 1 to 8 and part 1 of the document: each sentence that names a bound, with what is just within and just beside it. */
public final class FigureHeadsBoundsTold {
    private static final int BAD = Due.BAD, NOT = Due.NOT, FULL = Due.FULL, NONE = Due.NONE, NULL = Due.NULL, CAST = Due.CAST;

    /** As long as a fleet can be: 95 bytes. */
    private static final String LONGEST = "f......../......../......../......../......../.......o"
            + ";o00n0,g07e1,d50s2,t57w3,m33n4,o44e5;0189";
    private static final String SIX_SHIPS = "o00n0,o00n0,o00n0,o00n0,o00n0,o00n0";

    private static void due(String what, long got, long want) {
        Due.due(what, got, want);
    }

    private static int fleetOf(String tape) {
        return Due.fed(new FigureHeads(), tape).fleet();
    }

    private static void fault(String tape, int place) {
        due("fleet of " + tape, fleetOf(tape), -100 - place);
    }

    /** Behind these bytes just the allowed ones can stand, of all 256: else the fault is there, and not one place on. */
    private static void stands(String before, String allowed) {
        for (int letter = 0; letter < 256; letter++) {
            String tape = before + (char) letter;
            boolean can = allowed.indexOf((char) letter) >= 0;
            due("byte " + letter + " behind " + before, fleetOf(tape), -100 - before.length() - (can ? 1 : 0));
        }
    }

    // ---- promise 1

    private static void aNewObjectHasNoFleet() {
        Due.sentence(1, "No FLEET.");
        FigureHeads x = new FigureHeads();
        for (int what = 0; what < 10; what++) {
            due("count " + what, x.count(what), 0);
        }
        for (int what = 0; what < 4; what++) {
            due("ship " + what, x.ship(0, what), BAD);
        }
        due("as", x.as(0, 0), BAD);
        due("sea", x.sea(0), BAD);
        due("credit", x.credit(0), BAD);
        due("doubt", x.doubt(0, 0), BAD);
        due("say", x.say(0, 0, 0), BAD);
        due("storm", x.storm(0, 0, 0, 1, 0), BAD);
        due("drift", x.drift(0), BAD);
        due("scrape", x.scrape(0), BAD);
        due("learn", x.learn(0), BAD);
        due("undo", x.undo(), NONE);
        for (int k = 0; k < 2; k++) {
            due("image " + k, x.image(k), NOT);
            due("restore " + k, x.restore(k), NOT);
        }
        due("believed", x.believed(0), BAD);
        due("strikes", x.strikes(0), BAD);
        due("course", x.course(0, 0, 0, -1), BAD);
        due("crew", x.crew(-1), NOT);
        due("crew of a ship", x.crew(0), BAD);
        due("hears", x.hears(0, 0), BAD);
        due("links", x.links(0), NOT);
        due("talk", x.talk(0, 0, 1, 0), BAD);
        due("decades", x.decades(0, 1, 0), NOT);
        due("log", x.log(0, 0, 0, 0, 0, 1), BAD);
        due("rows", x.rows(0, 0, 0, 0, 0, 1, 0), BAD);
        due("kinds", x.kinds(0, 0, 0, 0, 0, 1, 0), BAD);
        due("fog", x.fog(0, 0, 0, 1, 0, 0, 0), BAD);
        Due.sentence(1, "nothing (at first)");
        for (int sheet = 0; sheet < 4; sheet++) {
            due("drop " + sheet, x.drop(sheet), NULL);
        }
        Due.sentence(1, "A new object: another one's fleet is not its own");
        FigureHeads other = Due.idle();
        due("the other's ships", other.count(0), 5);
        due("a new one's ships", new FigureHeads().count(0), 0);
        due("a new one's sheet", new FigureHeads().drop(0), NULL);
        due("a new one's image", new FigureHeads().restore(0), NOT);
    }

    // ---- promise 2

    private static void aByteIs0To255() {
        Due.sentence(2, "A byte (0 .. 255) comes behind THE TAPE: how many it has.");
        FigureHeads x = new FigureHeads();
        due("the least", x.feed(0), 1);
        due("the most", x.feed(255), 2);
        for (int half = 0; half < 2; half++) {
            FigureHeads each = new FigureHeads();
            for (int k = 0; k < 128; k++) {
                due("byte " + (128 * half + k), each.feed(128 * half + k), k + 1);
            }
        }
        Due.bad("feed", Due.BUSY, 0, 255, FigureHeads::feed);
        Due.bad("feed, no fleet", Due.NO_FLEET, 0, 255, FigureHeads::feed);
        due("count without a fleet", Due.fed(new FigureHeads(), "ab").count(9), 2);
    }

    private static FigureHeads full() {
        FigureHeads x = Due.sheeted(new FigureHeads());
        x.feed('f');
        for (int k = 2; k <= 130; k++) {
            x.feed('.');
        }
        return x;
    }

    private static void theTapeHasAtMost130Bytes() {
        Due.sentence(2, "THE TAPE has at most 130 bytes");
        FigureHeads x = new FigureHeads();
        for (int k = 1; k <= 130; k++) {
            due("byte " + k, x.feed('f'), k);
        }
        due("byte 131", x.feed('f'), FULL);
        due("byte 131 again", x.feed(0), FULL);
        due("bytes", x.count(9), 130);
        Due.stays("byte 131", new Due.Made(FigureHeadsBoundsTold::full), y -> y.feed('x'), FULL);
        FigureHeads ninth = full();
        ninth.feed('x');
        due("the first byte is still f, the ninth cell too many", ninth.fleet(), -109);
        due("empty then", ninth.count(9), 0);
        for (int k = 1; k <= 130; k++) {
            due("byte " + k + " of the next tape", ninth.feed('f'), k);
        }
        due("byte 131 of the next tape", ninth.feed('f'), FULL);
        Due.sentence(2, "BAD; FULL.");
        Due.bad("feed to a full tape", new Due.Made(FigureHeadsBoundsTold::full), 0, 255, FigureHeads::feed);
    }

    // ---- promise 3: what a fleet is

    private static void aFleetIsRowsShipsCredits() {
        Due.sentence(3, "A FLEET is f rows ; ships ; credits");
        stands("", "f");
        stands("f.;o00n0;", "0123456789");
        due("the shortest", fleetOf("f.;o00n0;0000"), 1);
        due("the longest", fleetOf(LONGEST), 6);
        due("bytes of the longest", LONGEST.length(), 95);
        Due.sentence(3, "nothing behind it");
        for (int letter = 0; letter < 256; letter++) {
            fault("f.;o00n0;0000" + (char) letter, 13);
        }
        fault(LONGEST + "0", 95);
        fault(LONGEST + LONGEST.substring(0, 35), 95);
        Due.sentence(3, "No blanks.");
        String whole = "f.#/o.;o00n5,m11w0;0909";
        due("without blanks", fleetOf(whole), 2);
        for (int place = 0; place <= whole.length(); place++) {
            for (char blank : new char[] {' ', '\n', '\t', '\r', (char) 0, (char) 160}) {
                fault(whole.substring(0, place) + blank + whole.substring(place), place);
            }
        }
    }

    private static void rowsAre1To6Of1To8Cells() {
        Due.sentence(3, "1 to 6 rows");
        stands("f", ".#o");
        stands("f././././.", "/;");
        stands("f./././././.", ";");
        due("one row", Due.with("f.;o00n0;0000").count(2), 1);
        due("five rows", Due.with("f././././.;o00n0;0000").count(2), 5);
        due("six rows", Due.with("f./././././.;o00n0;0000").count(2), 6);
        fault("f./././././././.;o00n0;0000", 12);
        Due.sentence(3, "the first one northmost");
        due("from the first row n", Due.with("f./././././.;o00n0;0000").strikes(0), 1);
        due("from the last row n", Due.with("f./././././.;o50n0;0000").strikes(0), 6);
        due("from the last row s", Due.with("f./././././.;o50s0;0000").strikes(0), 1);
        due("the first row's cell", Due.with("fo/.;o00n0;0000").sea(0), 2);
        due("the last row's cell", Due.with("fo/.;o00n0;0000").sea(8), 0);
        Due.sentence(3, "of 1 to 8 CELLS each");
        stands("f.", ".#o/;");
        stands("f.......", ".#o/;");
        stands("f........", "/;");
        due("one column", Due.with("f.;o00n0;0000").count(1), 1);
        due("seven columns", Due.with("f.......;o00n0;0000").count(1), 7);
        due("eight columns", Due.with("f........;o00n0;0000").count(1), 8);
        fault("f........./", 9);
        Due.sentence(3, "of as many, with / between");
        stands("f.../", ".#o");
        stands("f.../.", ".#o");
        stands("f.../..", ".#o");
        stands("f.../...", "/;");
        stands("f../../.", ".#o");
        stands("f../../..", "/;");
        stands("f......../.......", ".#o");
        stands("f......../........", "/;");
        Due.sentence(3, "a CELL is . WATER, # ROCK, o HARBOUR");
        FigureHeads x = Due.with("f.#o;o00n0;0000");
        for (int cell = 0; cell < 3; cell++) {
            due("cell " + cell, x.sea(cell), cell);
        }
    }

    private static void shipsAre1To6() {
        Due.sentence(3, "1 to 6 SHIPS (0, 1, .. as they come) with , between");
        stands("f.;", "ogdtm");
        stands("f.;o00n0", ",;");
        stands("f.;o00n0,", "ogdtm");
        stands("f.;o00n0,o00n0,o00n0,o00n0,o00n0", ",;");
        stands("f.;" + SIX_SHIPS, ";");
        String ships = "";
        for (int n = 1; n <= 6; n++) {
            ships += (n == 1 ? "" : ",") + "ogdtmg".charAt(n - 1) + "0" + (n - 1) + "n0";
            FigureHeads x = Due.fed(new FigureHeads(), "f........;" + ships + ";0000");
            due(n + " ships", x.fleet(), n);
            due(n + " ships: count", x.count(0), n);
            due(n + " ships: the last one", x.ship(n - 1, 1), n - 1);
            due(n + " ships: one more", x.ship(n, 1), BAD);
        }
        fault("f.;" + SIX_SHIPS + ",o00n0;0000", 38);
        Due.sentence(3, "the row, the column where she is (a figure each; there must be such a CELL, no ROCK)");
        stands("f.;o", "0");
        stands("f./.;o", "01");
        stands("f./././././.;o", "012345");
        stands("f.;o0", "0");
        stands("f.......;o0", "0123456");
        stands("f........;o0", "01234567");
        stands("f.#.o;o0", "023");
        stands("f#/.;o", "01");
        stands("f#/.;o0", "");
        stands("f#/.;o1", "0");
        stands("f.#/#.;o00n0,o1", "1");
        Due.sentence(3, "where she is LOOKING (n, e, s, w)");
        stands("f.;o00", "nesw");
        Due.sentence(3, "WORM (0 to 5)");
        stands("f.;o00n", "012345");
        for (int worm = 0; worm <= 5; worm++) {
            due("worm " + worm, Due.with("f.;o00n" + worm + ";0000").ship(0, 3), worm);
        }
        Due.sentence(3, "Several SHIPS may be in one CELL.");
        FigureHeads together = Due.with("f..;o00e0,o00e0,o00e0,o00e0,o00e0,o00e0;0000");
        due("one goes", together.drift(5), 1);
        for (int ship = 0; ship < 6; ship++) {
            due("ship " + ship, together.ship(ship, 1), ship == 5 ? 1 : 0);
        }
        due("another comes to her", together.drift(0), 1);
    }

    private static void creditsAreFourFigures() {
        Due.sentence(3, "the CREDIT of TELLERS 0 to 3, a figure (0 to 9) each");
        stands("f.;o00n0;0", "0123456789");
        stands("f.;o00n0;09", "0123456789");
        for (int letter = 0; letter < 256; letter++) {
            boolean figure = letter >= '0' && letter <= '9';
            due("last byte " + letter, fleetOf("f.;o00n0;000" + (char) letter), figure ? 1 : -112);
        }
        for (int credit = 0; credit <= 9; credit++) {
            FigureHeads x = Due.with("f.;o00n0;" + credit + (9 - credit) + credit + (9 - credit));
            Due.credits("credit " + credit, x, credit, 9 - credit, credit, 9 - credit);
        }
    }

    private static void cellsAreNumbered() {
        Due.sentence(3, "CELLS are numbered 8 times the row and the column.");
        for (int column = 0; column < 8; column++) {
            String ships = "";
            for (int row = 0; row < 6; row++) {
                ships += (row == 0 ? "" : ",") + "o" + row + column + "n0";
            }
            FigureHeads x = Due.with("f......../......../......../......../......../........;" + ships + ";0000");
            for (int row = 0; row < 6; row++) {
                due("row " + row + " column " + column, x.ship(row, 1), 8 * row + column);
            }
        }
        FigureHeads narrow = Due.with("f.../..o;o12n0;0000");
        due("of three columns too", narrow.ship(0, 1), 10);
        due("of three columns too: sea", narrow.sea(10), 2);
    }

    private static void aFleetStandsInPlaceOfTheOneBefore() {
        Due.sentence(3, "A FLEET that is read stands in place of the one before (none at first): TURN 0; nothing can be undone; all else stays.");
        FigureHeads x = Due.idle();
        due("turn before", x.count(3), 3);
        due("acts before", x.count(8), 5);
        due("foretold before", x.decades(0, 1, 1), 14);
        due("fleet", Due.fed(x, "fo#;o00n3;1234").fleet(), 1);
        int[] counts = {1, 2, 1, 0, 3, 10, 1, 1, 0, 0};
        for (int what = 0; what < 10; what++) {
            due("count " + what, x.count(what), counts[what]);
        }
        due("undo", x.undo(), NONE);
        due("a ship of the one before", x.ship(1, 0), BAD);
        due("a row of the one before", x.sea(8), BAD);
        due("a column of the one before", x.sea(2), BAD);
        Due.state("the new ship", x, 0, 0, 0, 3);
        Due.credits("the new credit", x, 1, 2, 3, 4);
        due("believed by nobody", x.believed(3), 0);
        due("strikes", x.strikes(0), 1);
        due("crew", x.crew(-1), 0);
        due("hears herself alone", x.hears(0, 12), 1);
        due("no links", x.links(12), 0);
        due("an act on it", x.drift(0), 0);
        due("can be undone", x.undo(), 0);
        due("but none before it", x.undo(), NONE);
        due("image 0 stays", x.restore(0), 1);
        due("image 0: ships", x.count(0), 5);
        Due.state("image 0: the ship that drifted", x, 1, 8, 2, 1);
        due("image 1 stays", x.restore(1), 2);
        Due.credits("image 1", x, 7, 3, 1, 5);
        Due.items("sheets stay", x, 0, 0, 1, 2, 0, 5);
        due("a sheet that is nothing stays so", x.drop(3), NULL);
        Due.sentence(3, "(none at first)");
        due("the first fleet", Due.with("f.;o00n0;0000").count(0), 1);
    }

    private static void theTapeIsEmptyThen() {
        Due.sentence(3, "THE TAPE, empty then");
        FigureHeads x = Due.fed(new FigureHeads(), "f.;o00n0;0000");
        due("bytes ahead", x.count(9), 13);
        due("a fleet", x.fleet(), 1);
        due("bytes behind a fleet", x.count(9), 0);
        due("an empty tape is none", x.fleet(), -100);
        due("ships stay", x.count(0), 1);
        Due.fed(x, "f.;");
        due("a fault", x.fleet(), -103);
        due("bytes behind a fault", x.count(9), 0);
        due("the next fleet begins anew", Due.fed(x, "f..;d01n0;0000").fleet(), 1);
        due("it stands", x.ship(0, 1), 1);
    }

    // ---- promise 3: faults

    private static void aFaultIsTheFirstByteThatCannotStand() {
        Due.sentence(3, "a CELL that a row has more than the first one");
        fault("f../...;o00n0;0000", 6);
        fault("f./..;o00n0;0000", 4);
        fault("f../../..#;o00n0;0000", 9);
        Due.sentence(3, "what ends a row too early");
        fault("f.../../...;o00n0;0000", 7);
        fault("f.../..;o00n0;0000", 7);
        fault("f.../;o00n0;0000", 5);
        fault("f.../", 5);
        fault("f.../..", 7);
        fault("f;o00n0;0000", 1);
        fault("f/.;o00n0;0000", 1);
        Due.sentence(3, "a row, a SHIP too many: its sign ahead");
        fault("f./././././.", 12);
        fault("f./././././.#", 12);
        fault("f./././././././", 12);
        fault("f../../../../../../..;o00n0;0000", 18);
        fault("f.;" + SIX_SHIPS + ",", 38);
        fault("f.;" + SIX_SHIPS + ",x", 38);
        Due.sentence(3, "of a SHIP a row that there is not: the row");
        fault("f.;o10n0;0000", 4);
        fault("f./.;o20n0;0000", 6);
        fault("f./././././.;o60n0;0000", 14);
        fault("f.;o00n0,o10n0;0000", 10);
        Due.sentence(3, "a column that makes a CELL that is none, or a ROCK: the column");
        fault("f.;o01n0;0000", 5);
        fault("f........;o08n0;0000", 12);
        fault("f........;o09n0;0000", 12);
        fault("f.#;o01n0;0000", 6);
        fault("f./#;o10n0;0000", 7);
        fault("f.#;o00n0,o01n0;0000", 12);
        Due.sentence(3, "the end: how many bytes there are");
        fault("", 0);
        for (int length = 0; length < LONGEST.length(); length++) {
            fault(LONGEST.substring(0, length), length);
        }
    }

    private static void aFaultLeavesAllElse() {
        Due.sentence(3, "-100 less the place of a FAULT (all else stays)");
        String[] tapes = {"", "x", "f", "f..#/", "fo#/..;", "f.;o00n5,", "f.;o00n5,d01", "f.;o00n0;00", "f.;o00n0;000x", "f.;o00n0;00000"};
        int[] places = {0, 0, 1, 5, 7, 9, 11, 11, 12, 13};
        for (int k = 0; k < tapes.length; k++) {
            String tape = tapes[k];
            Due.stays("fleet of " + tape, Due.IDLE, x -> Due.fed(x, tape).fleet(), -100 - places[k]);
            Due.stays("fleet of " + tape + ", none before", Due.NO_FLEET, x -> Due.fed(x, tape).fleet(), -100 - places[k]);
        }
    }

    // ---- promises 4 to 8

    private static void shipsBounds() {
        Due.sentence(4, "Of a SHIP: 0 the KIND, as told (1 .. 5), 1 the CELL, 2 where she is LOOKING (0 n, 1 e, 2 s, 3 w), 3 WORM. BAD.");
        FigureHeads x = Due.with(LONGEST);
        int[][] want = {{1, 0, 0, 0}, {2, 7, 1, 1}, {3, 40, 2, 2}, {4, 47, 3, 3}, {5, 27, 0, 4}, {1, 36, 1, 5}};
        for (int ship = 0; ship < 6; ship++) {
            for (int what = 0; what < 4; what++) {
                due("ship " + ship + " " + what, x.ship(ship, what), want[ship][what]);
            }
        }
        due("ship 6 of six", x.ship(6, 0), BAD);
        FigureHeads one = Due.with("f.;m00w5;0000");
        due("ship 0 of one", one.ship(0, 0), 5);
        due("ship 1 of one", one.ship(1, 0), BAD);
        Due.bad("ship", Due.BUSY, 0, 4, (y, v) -> y.ship(v, 0));
        Due.bad("what", Due.BUSY, 0, 3, (y, v) -> y.ship(4, v));
        Due.stays("ship", Due.BUSY, y -> y.ship(4, 3), 1);
        for (int what = -1; what < 5; what++) {
            due("no fleet, what " + what, new FigureHeads().ship(0, what), BAD);
        }
    }

    private static void asBounds() {
        Due.sentence(5, "KINDS are over one another: HEAD (0); OAK (1) and DEAF (3) under it; GILT (2) is OAK; THOMAS (4) is OAK; MIRROR (5) is GILT.");
        FigureHeads x = Due.with("f.;o00n0,g00n0,d00n0,t00n0,m00n0;0000");
        boolean[][] is = {
            {true, true, false, false, false, false},
            {true, true, true, false, false, false},
            {true, false, false, true, false, false},
            {true, true, false, false, true, false},
            {true, true, true, false, false, true}};
        for (int ship = 0; ship < 5; ship++) {
            for (int kind = 0; kind < 6; kind++) {
                due("ship " + ship + " as " + kind, x.as(ship, kind), is[ship][kind] ? ship : CAST);
            }
        }
        Due.sentence(5, "A SHIP taken as a KIND (0 .. 5): her number. BAD; CAST: she is none such.");
        Due.bad("ship", Due.BUSY, 0, 4, (y, v) -> y.as(v, 0));
        Due.bad("kind", Due.BUSY, 0, 5, (y, v) -> y.as(4, v));
        Due.stays("none such", Due.BUSY, y -> y.as(2, 1), CAST);
        Due.stays("such", Due.BUSY, y -> y.as(4, 5), 4);
        due("ship 5 of six as a head", Due.with(LONGEST).as(5, 0), 5);
        Due.sentence(5, "of several the first that a call names: BAD; CAST");
        due("no ship, and no such kind of her", Due.with("f.;d00n0;0000").as(1, 1), BAD);
        due("no kind", Due.with("f.;d00n0;0000").as(0, 6), BAD);
        due("no fleet", new FigureHeads().as(0, 1), BAD);
    }

    private static void seaBounds() {
        Due.sentence(6, "A CELL: 0 WATER, 1 ROCK, 2 HARBOUR. BAD.");
        FigureHeads x = Due.with("f#....../......o;o01n0;0000");
        for (int cell = 0; cell < 48; cell++) {
            int want = cell == 0 ? 1 : cell == 14 ? 2 : cell % 8 < 7 && cell < 15 ? 0 : BAD;
            due("cell " + cell + " of 2 rows of 7", x.sea(cell), want);
        }
        FigureHeads great = Due.with(LONGEST);
        for (int cell = 0; cell < 48; cell++) {
            due("cell " + cell + " of 6 rows of 8", great.sea(cell), cell == 47 ? 2 : 0);
        }
        due("cell 48", great.sea(48), BAD);
        FigureHeads least = Due.with("fo;o00n0;0000");
        due("cell 0 of one", least.sea(0), 2);
        due("cell 1 of one", least.sea(1), BAD);
        due("cell 8 of one", least.sea(8), BAD);
        Due.bad("cell", Due.BUSY, 0, 21, FigureHeads::sea);
        for (int cell : new int[] {6, 7, 14, 15, -2, -8, 22, 24}) {
            Due.stays("cell " + cell, Due.BUSY, y -> y.sea(cell), BAD);
        }
        Due.bad("cell, no fleet", Due.NO_FLEET, 0, -1, FigureHeads::sea);
    }

    private static void creditAndDoubtBounds() {
        Due.sentence(7, "CREDIT of a TELLER. BAD (no FLEET, too).");
        FigureHeads x = Due.with("f.;o00n0;0459");
        Due.credits("the first and the last teller", x, 0, 4, 5, 9);
        Due.bad("teller", Due.BUSY, 0, 3, FigureHeads::credit);
        for (int teller = 0; teller < 4; teller++) {
            int v = teller;
            Due.stays("no fleet, teller " + v, Due.NO_FLEET, y -> y.credit(v), BAD);
        }
        Due.sentence(8, "an OAK: 3 and WORM; a GILT one as an OAK, less 2; a DEAF one 10; a THOMAS as an OAK, less 3, for TELLER 0, 10 for others; a MIRROR as a GILT one");
        for (int worm = 0; worm <= 5; worm++) {
            String w = worm + ",";
            FigureHeads y = Due.with("f.;o00n" + w + "g00n" + w + "d00n" + w + "t00n" + w + "m00n" + worm + ";0000");
            for (int teller = 0; teller < 4; teller++) {
                due("oak, worm " + worm, y.doubt(0, teller), 3 + worm);
                due("gilt, worm " + worm, y.doubt(1, teller), 1 + worm);
                due("deaf, worm " + worm, y.doubt(2, teller), 10);
                due("thomas, worm " + worm + ", teller " + teller, y.doubt(3, teller), teller == 0 ? worm : 10);
                due("mirror, worm " + worm, y.doubt(4, teller), 1 + worm);
            }
        }
        Due.sentence(8, "DOUBT of a SHIP for a TELLER. BAD.");
        Due.bad("ship", Due.BUSY, 0, 4, (y, v) -> y.doubt(v, 3));
        Due.bad("teller", Due.BUSY, 0, 3, (y, v) -> y.doubt(4, v));
        Due.stays("thomas was scraped", Due.BUSY, y -> y.doubt(3, 0), 1);
        due("no fleet", new FigureHeads().doubt(0, 0), BAD);
        due("ship 5 of six", Due.with(LONGEST).doubt(5, 3), 8);
        due("ship 6 of six", Due.with(LONGEST).doubt(6, 3), BAD);
    }

    public static void main(String[] args) {
        aNewObjectHasNoFleet();
        aByteIs0To255();
        theTapeHasAtMost130Bytes();
        aFleetIsRowsShipsCredits();
        rowsAre1To6Of1To8Cells();
        shipsAre1To6();
        creditsAreFourFigures();
        cellsAreNumbered();
        aFleetStandsInPlaceOfTheOneBefore();
        theTapeIsEmptyThen();
        aFaultIsTheFirstByteThatCannotStand();
        aFaultLeavesAllElse();
        shipsBounds();
        asBounds();
        seaBounds();
        creditAndDoubtBounds();
        Due.end();
    }
}
