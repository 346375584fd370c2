/** Promises 17 to 24 and part 3 of the document: each sentence that names a bound, with what is just within and just beside it. */
public final class FigureHeadsBoundsForetold {
    private static final int BAD = Due.BAD, NOT = Due.NOT, NONE = Due.NONE, MAX = Due.MAX;
    private static final String OPEN = "f......../......../......../......../......../........;";
    private static final String SIX = "f.;o00n0,o00n0,o00n0,o00n0,o00n0,o00n0;";

    private static void due(String what, long got, long want) {
        Due.due(what, got, want);
    }

    // ---- promise 17

    private static void believedBounds() {
        Due.sentence(17, "SHIPS by which a TELLER is BELIEVED, as a set. BAD (no FLEET, too).");
        due("all six", Due.with(SIX + "3000").believed(0), 63);
        due("none of six", Due.with(SIX + "2000").believed(0), 0);
        due("the last teller", Due.with(SIX + "0003").believed(3), 63);
        due("the first and the last ship", Due.with("f.;g00n0,d00n0,o00n0,t00n0,d00n0,m00n0;0001").believed(3), 33);
        due("of one ship", Due.with("f.;t00n5;5000").believed(0), 1);
        due("of one ship, by one not", Due.with("f.;t00n5;4999").believed(0), 0);
        Due.bad("teller", Due.BUSY, 0, 3, FigureHeads::believed);
        for (int teller = 0; teller < 4; teller++) {
            int v = teller;
            Due.stays("no fleet, teller " + v, Due.NO_FLEET, x -> x.believed(v), BAD);
            Due.stays("teller " + v, Due.BUSY, x -> x.believed(v), new int[] {27, 19, 0, 19}[v]);
        }
    }

    // ---- promise 18

    private static void strikesBounds() {
        Due.sentence(18, "at which DRIFTING on end (1 on) a SHIP STRIKES first");
        for (int cell = 0; cell < 48; cell++) {
            String where = "d" + cell / 8 + cell % 8;
            due("n from " + cell, Due.with(OPEN + where + "n0;0000").strikes(0), cell / 8 + 1);
            due("e from " + cell, Due.with(OPEN + where + "e0;0000").strikes(0), 8 - cell % 8);
            due("s from " + cell, Due.with(OPEN + where + "s0;0000").strikes(0), 6 - cell / 8);
            due("w from " + cell, Due.with(OPEN + where + "w0;0000").strikes(0), cell % 8 + 1);
        }
        due("a rock at once", Due.with("f.#;d00e0;0000").strikes(0), 1);
        due("a rock at last", Due.with("f.......#;d00e0;0000").strikes(0), 7);
        due("the first of two rocks", Due.with("f..#.#;d00e0;0000").strikes(0), 2);
        due("through a harbour", Due.with("f.o.;d00e0;0000").strikes(0), 3);
        due("worm 5 is no matter", Due.with("f..;o00e5;9999").strikes(0), 2);
        Due.sentence(18, "STRIKES. BAD.");
        Due.bad("ship", Due.BUSY, 0, 4, FigureHeads::strikes);
        Due.stays("no fleet", Due.NO_FLEET, x -> x.strikes(0), BAD);
        Due.stays("nothing changes", Due.BUSY, x -> x.strikes(2), 6);
        FigureHeads six = Due.with(SIX + "0000");
        due("the last ship", six.strikes(5), 1);
        due("ship 6 of six", six.strikes(6), BAD);
    }

    // ---- promise 19

    private static void courseIs(String what, String tape, int teller, int cell, int... words) {
        FigureHeads x = Due.with(tape);
        due(what + ": how many", x.course(0, teller, cell, -1), words.length);
        for (int k = 0; k < words.length; k++) {
            due(what + ": word " + k, x.course(0, teller, cell, k), words[k]);
        }
        due(what + ": one word more", x.course(0, teller, cell, words.length), NONE);
        due(what + ": the last k", x.course(0, teller, cell, MAX), NONE);
    }

    private static void noCourse(String what, String tape, int teller, int cell) {
        FigureHeads x = Due.with(tape);
        due(what + ": how many", x.course(0, teller, cell, -1), NONE);
        due(what + ": the first", x.course(0, teller, cell, 0), NONE);
        due(what + ": the last k", x.course(0, teller, cell, MAX), NONE);
    }

    private static void courseBounds() {
        Due.sentence(19, "none: 0 WORDS, if she is there");
        courseIs("she is there", "f...;o01e0;9999", 0, 1);
        courseIs("she is there, believing nobody", "f.;d00n5;0000", 3, 0);
        courseIs("she is in the last cell", OPEN + "o57n0;9999", 0, 47);
        Due.sentence(19, "the fewest WORDS SAID by him, one after the other, without her STRIKING, so that she is there");
        courseIs("one word", "f...;o01e0;9999", 0, 2, 0);
        noCourse("turning round would strike", "f...;o01e0;9999", 0, 0);
        courseIs("turning round in two rows", "f.../...;o01e0;9999", 0, 0, 2, 2, 2);
        courseIs("turning round in two rows, the other way", "f.../...;o11e0;9999", 0, 8, 1, 1, 1);
        courseIs("the longest way", "f......../#######./......../.#######/......../#######.;o00e0;3000", 0, 47,
                0, 0, 0, 0, 0, 0, 0, 2, 0, 2, 0, 0, 0, 0, 0, 0, 1, 0, 1, 0, 0, 0, 0, 0, 0, 2);
        courseIs("from corner to corner", OPEN + "o00e0;9000", 0, 47, 0, 0, 0, 0, 0, 0, 0, 2, 0, 0, 0, 0);
        noCourse("behind rocks", "f.#./.#.;o00e0;9000", 0, 2);
        Due.sentence(19, "of several rows the first by WORDS, one by one");
        courseIs("still ahead of right", "f.../...;o00e0;9999", 0, 10, 0, 0, 2);
        courseIs("left ahead of right", "f.../.#./...;o10e0;9999", 0, 10, 1, 2, 0, 2);
        courseIs("a mirror: right is left", "f.../...;m00e0;9999", 0, 10, 0, 0, 1);
        courseIs("a deaf one: the first of all words", "f...;d00e0;9999", 0, 2, 0, 0);
        Due.sentence(19, "A TELLER is BELIEVED whose CREDIT is as much, or more: by a course");
        courseIs("just believed", "f../..;o00e0;3000", 0, 8, 2);
        noCourse("not, by one", "f../..;o00e0;2000", 0, 8);
        courseIs("not, by one, ahead", "f../..;o00e0;2000", 0, 1, 0);
        courseIs("thomas, teller 0", "f../..;t00e5;5999", 0, 8, 2);
        noCourse("thomas, teller 1", "f../..;t00e0;9999", 1, 8);
    }

    private static void courseIsRefused() {
        Due.sentence(19, "how many WORDS (k -1), the k-th (0 on; NONE: there are fewer); NONE. BAD: k below -1, too; NOT: the CELL is a ROCK.");
        Due.stays("k -2", Due.BUSY, x -> x.course(0, 0, 1, -2), BAD);
        Due.stays("the least k", Due.BUSY, x -> x.course(0, 0, 1, Due.MIN), BAD);
        Due.bad("ship", Due.BUSY, 0, 4, (x, v) -> x.course(v, 0, 1, -1));
        Due.bad("teller", Due.BUSY, 0, 3, (x, v) -> x.course(0, v, 1, -1));
        Due.bad("cell", Due.BUSY, 0, 21, (x, v) -> x.course(0, 0, v, -1));
        for (int cell : new int[] {6, 7, 14, 22, 24}) {
            Due.stays("cell " + cell, Due.BUSY, x -> x.course(0, 0, cell, -1), BAD);
        }
        Due.stays("no fleet", Due.NO_FLEET, x -> x.course(0, 0, 0, -1), BAD);
        Due.stays("a rock", Due.BUSY, x -> x.course(0, 0, 2, -1), NOT);
        Due.stays("a rock, k 0", Due.BUSY, x -> x.course(0, 0, 18, 0), NOT);
        Due.stays("a rock, the last k", Due.BUSY, x -> x.course(2, 0, 18, MAX), NOT);
        // The oak of the busy one is in 0 looking n: left and up strike, so right is the only way.
        Due.stays("nothing changes", Due.BUSY, x -> x.course(0, 0, 1, -1), 1);
        Due.stays("nothing changes: a word", Due.BUSY, x -> x.course(0, 0, 1, 0), 2);
        Due.stays("fewer", Due.BUSY, x -> x.course(0, 0, 1, 1), NONE);
        Due.stays("none", Due.BUSY, x -> x.course(2, 0, 0, -1), NONE);
        Due.sentence(19, "of several the first that a call names: BAD; NOT");
        FigureHeads x = Due.with("f.#;o00e0;9999");
        due("a rock, k -2", x.course(0, 0, 1, -2), BAD);
        due("a rock, no ship", x.course(1, 0, 1, -1), BAD);
        due("a rock, no teller", x.course(0, 4, 1, -1), BAD);
        due("the first cell of the next row there is not", x.course(0, 0, 8, -1), BAD);
    }

    // ---- promise 20

    private static void crewIs(String what, String tape, int most, int... tellers) {
        FigureHeads x = Due.with(tape);
        due(what + ": how many", x.crew(-1), most);
        for (int ship = 0; ship < tellers.length; ship++) {
            due(what + ": ship " + ship, x.crew(ship), tellers[ship]);
        }
        due(what + ": one ship more", x.crew(tellers.length), BAD);
    }

    private static void crewBounds() {
        Due.sentence(20, "each SHIP has another TELLER, or none, so that most are BELIEVED");
        crewIs("nobody believed", SIX + "2222", 0, NONE, NONE, NONE, NONE, NONE, NONE);
        crewIs("one believed", SIX + "2232", 1, 2, NONE, NONE, NONE, NONE, NONE);
        crewIs("four tellers of six ships", SIX + "3333", 4, 0, 1, 2, 3, NONE, NONE);
        crewIs("one ship", "f.;o00n0;9999", 1, 0);
        crewIs("one ship, deaf", "f.;d00n0;9999", 0, NONE);
        crewIs("one ship, the last teller", "f.;o00n0;2223", 1, 3);
        crewIs("every other ship believes", "f.;d00n0,o00n0,d00n0,o00n0;9999", 2, NONE, 0, NONE, 1);
        crewIs("the last ships believe", "f.;d00n0,d00n0,o00n0,o00n0,o00n0,o00n0;9999", 4, NONE, NONE, 0, 1, 2, 3);
        FigureHeads fewer = Due.with(SIX + "9999");
        due("six ships", fewer.crew(-1), 4);
        Due.fed(fewer, "f.;o00n0;9999").fleet();
        due("then one ship", fewer.crew(-1), 1);
        due("then one ship: believed", fewer.believed(0), 1);
        due("then one ship: hears", fewer.hears(0, 12), 1);
        Due.sentence(20, "of several the first (SHIP by SHIP the lesser TELLER, none last; who is not BELIEVED is none's)");
        crewIs("gives way to a thomas", "f.;o00n0,t00n0;9900", 2, 1, 0);
        crewIs("two thomases: the first has him", "f.;t00n0,t00n0;9999", 1, 0, NONE);
        crewIs("none last: the first has him, though the second would do", "f.;o00n0,o00n0;0300", 1, 1, NONE);
        crewIs("a chain of giving way", "f.;g00n2,g00n1,g00n0;3210", 3, 0, 1, 2);
        crewIs("a chain the other way", "f.;g00n0,g00n1,g00n2;3210", 3, 2, 1, 0);
        Due.sentence(20, "how many (ship -1), the TELLER of a SHIP; NONE: she has none. BAD; NOT: no FLEET.");
        Due.bad("ship", Due.BUSY, -1, 4, FigureHeads::crew);
        Due.stays("no fleet, how many", Due.NO_FLEET, x -> x.crew(-1), NOT);
        Due.bad("no fleet, ship", Due.NO_FLEET, -1, -1, FigureHeads::crew);
        Due.stays("nothing changes", Due.BUSY, x -> x.crew(-1), 3);
        Due.stays("nothing changes: a ship", Due.BUSY, x -> x.crew(4), 3);
        Due.stays("nothing changes: none", Due.BUSY, x -> x.crew(2), NONE);
    }

    // ---- promises 21 and 22

    private static void hearingBounds() {
        Due.sentence(21, "SHIPS that are AWAY by d or less hear one another");
        for (int away = 0; away <= 12; away++) {
            int row = Math.min(5, away);
            int column = away - row;
            FigureHeads down = Due.with(OPEN + "o00n0,o" + row + column + "n0;0000");
            FigureHeads up = Due.with(OPEN + "o57n0,o" + (5 - row) + (7 - column) + "n0;0000");
            FigureHeads across = Due.with(OPEN + "o07n0,o" + row + (7 - column) + "n0;0000");
            for (int d = 0; d <= 12; d++) {
                due("away " + away + " d " + d, down.hears(0, d), d >= away ? 3 : 1);
                due("away " + away + " d " + d + ", the other", down.hears(1, d), d >= away ? 3 : 2);
                due("away " + away + " d " + d + ", up", up.hears(0, d), d >= away ? 3 : 1);
                due("away " + away + " d " + d + ", across", across.hears(0, d), d >= away ? 3 : 1);
            }
        }
        Due.sentence(21, "and all that these hear, and so on");
        FigureHeads chain = Due.with("f......;o05n0,o02n0,o04n0,o01n0,o03n0,o00n0;0000");
        for (int ship = 0; ship < 6; ship++) {
            due("a chain of six, d 1, ship " + ship, chain.hears(ship, 1), 63);
            due("a chain of six, d 0, ship " + ship, chain.hears(ship, 0), 1 << ship);
        }
        FigureHeads broken = Due.with("f........;o00n0,o01n0,o02n0,o04n0,o05n0,o06n0;0000");
        due("a gap of 2, d 1, the first", broken.hears(0, 1), 7);
        due("a gap of 2, d 1, the last", broken.hears(5, 1), 56);
        due("a gap of 2, d 2", broken.hears(5, 2), 63);
        Due.sentence(21, "SHIPS that HEAR a SHIP by d (0 .. 12), with her, as a set. BAD.");
        due("one ship alone", Due.with("f.;d00n0;0000").hears(0, 0), 1);
        due("one ship alone, the greatest d", Due.with("f.;d00n0;0000").hears(0, 12), 1);
        due("all in one cell, d 0", Due.with(SIX + "0000").hears(5, 0), 63);
        Due.bad("d", Due.BUSY, 0, 12, (x, v) -> x.hears(0, v));
        Due.bad("ship", Due.BUSY, 0, 4, (x, v) -> x.hears(v, 0));
        Due.stays("no fleet", Due.NO_FLEET, x -> x.hears(0, 0), BAD);
        Due.stays("nothing changes", Due.BUSY, x -> x.hears(4, 12), 31);
    }

    private static void linksBounds() {
        Due.sentence(22, "SHIPS without which alone two others who hear one another would no more");
        due("one ship", Due.with("f.;o00n0;0000").links(12), 0);
        due("two ships", Due.with("f..;o00n0,o01n0;0000").links(1), 0);
        FigureHeads three = Due.with("f.....;o00n0,o02n0,o04n0;0000");
        due("three, d 1: none hears another", three.links(1), 0);
        due("three, d 2: the middle one", three.links(2), 2);
        due("three, d 3: the middle one still", three.links(3), 2);
        due("three, d 4: all by themselves", three.links(4), 0);
        due("the first ship", Due.with("f...;o01n0,o00n0,o02n0;0000").links(1), 1);
        due("the last ship of six", Due.with("f....;o00n0,o01n0,o01n0,o03n0,o03n0,o02n0;0000").links(1), 32);
        due("two in the middle", Due.with("f.....;o00n0,o02n0,o04n0,o02n0;0000").links(2), 0);
        due("all in one cell", Due.with(SIX + "0000").links(0), 0);
        due("a ring", Due.with("f../..;o00n0,o01n0,o11n0,o10n0;0000").links(1), 0);
        due("a chain of six", Due.with("f......;o05n0,o02n0,o04n0,o01n0,o03n0,o00n0;0000").links(1), 30);
        due("two chains", Due.with("f......../........;o00n0,o01n0,o02n0,o05n0,o06n0,o07n0;0000").links(1), 18);
        FigureHeads corners = Due.with(OPEN + "o00n0,o57n0,o53n0;0000");
        due("corners by the third, d 7", corners.links(7), 0);
        due("corners by the third, d 8", corners.links(8), 4);
        due("corners by the third, d 11", corners.links(11), 4);
        due("corners by the third, d 12", corners.links(12), 0);
        Due.sentence(22, "LINKS by d (0 .. 12), as a set. BAD; NOT: no FLEET.");
        Due.bad("d", Due.BUSY, 0, 12, FigureHeads::links);
        Due.bad("d, no fleet", Due.NO_FLEET, 0, 12, FigureHeads::links);
        Due.stays("no fleet, d 0", Due.NO_FLEET, x -> x.links(0), NOT);
        Due.stays("no fleet, d 12", Due.NO_FLEET, x -> x.links(12), NOT);
        // The busy one's ships are in 0, 8, 13, 17, 10.
        Due.stays("nothing changes, d 0", Due.BUSY, x -> x.links(0), 0);
        Due.stays("nothing changes, d 2", Due.BUSY, x -> x.links(2), 2);
        Due.stays("nothing changes, d 12", Due.BUSY, x -> x.links(12), 0);
    }

    // ---- promise 23

    private static void talkBounds() {
        Due.sentence(23, "n (0 to 3) WORDS each, a first, one after the other");
        String lane = "fo.......;d07w0;0000";
        due("n 0", Due.with(lane).talk(0, 0, 1, 0), 7);
        due("n 1", Due.with(lane).talk(0, 0, 1, 1), 5);
        due("n 2", Due.with(lane).talk(0, 3, 2, 2), 3);
        due("n 3", Due.with(lane).talk(0, 1, 3, 3), 1);
        due("a alone is believed", Due.with("fo../.../...;o22w0;3000").talk(0, 0, 1, 1), 2);
        // a's word is not heard, she goes w; by LEFT of b she strikes, and stays 3 away.
        due("b alone is believed", Due.with("fo../.../...;o22w0;0300").talk(0, 0, 1, 1), 3);
        due("a first, then b", Due.with("fo../.../...;o22w0;3300").talk(0, 0, 1, 1), 3);
        due("a's second word brings her there", Due.with("f.../##./##o;o00e0;9000").talk(0, 0, 1, 2), 0);
        due("b's second word does not keep her from it", Due.with("f.../##./##o;o00e0;9000").talk(0, 0, 2, 3), 0);
        // b has her strike, looking n, and turns her back to 0 by the second word.
        due("said by b it keeps her away", Due.with("f.../##./##o;o00e0;0900").talk(0, 0, 1, 2), 4);
        Due.sentence(23, "a wanting little, b much");
        due("of 0 and more a wants 0", Due.with("f..o;o00e0;9000").talk(0, 0, 1, 1), 0);
        due("of 0 and more b wants more", Due.with("f.o.;o00e0;9000").talk(0, 1, 0, 1), 1);
        Due.sentence(23, "how far AWAY the SHIP is from the nearest HARBOUR at last");
        due("in it", Due.with("fo;d00n0;0000").talk(0, 0, 1, 0), 0);
        due("in it, struck six times", Due.with("fo;d00n0;0000").talk(0, 0, 1, 3), 0);
        due("the farthest", Due.with("fo......./......../......../......../......../........;d57e0;0000").talk(0, 0, 1, 3), 12);
        due("of two the nearer", Due.with("fo......./......../......../......../......../o.......;d57e0;0000").talk(0, 0, 1, 0), 7);
        due("the last cell's", Due.with("f......../......../......../......../......../.......o;d00n0;0000").talk(0, 0, 1, 0), 12);
        Due.sentence(23, "NONE: there is no HARBOUR");
        Due.Made none = new Due.Made(() -> Due.sheeted(Due.with("f.#/..;o00n0,d11s2;1234")));
        Due.stays("no harbour, n 0", none, x -> x.talk(0, 0, 1, 0), NONE);
        Due.stays("no harbour, n 3", none, x -> x.talk(1, 3, 0, 3), NONE);
        Due.sentence(23, "of several the first that a call names: BAD; NONE");
        due("no harbour, like tellers", none.maker.get().talk(0, 1, 1, 1), BAD);
        due("no harbour, n 4", none.maker.get().talk(0, 0, 1, 4), BAD);
        due("no harbour, no ship", none.maker.get().talk(2, 0, 1, 0), BAD);
        Due.sentence(23, "TALK of two unlike TELLERS (n 0 .. 3). BAD");
        for (int teller = 0; teller < 4; teller++) {
            int v = teller;
            Due.stays("teller " + v + " twice", Due.BUSY, x -> x.talk(0, v, v, 1), BAD);
        }
        Due.bad("n", Due.BUSY, 0, 3, (x, v) -> x.talk(0, 0, 1, v));
        Due.bad("a", Due.BUSY, 0, 3, (x, v) -> x.talk(0, v, 1, 0));
        Due.bad("b", Due.BUSY, 0, 3, (x, v) -> x.talk(0, 1, v, 0));
        Due.bad("ship", Due.BUSY, 0, 4, (x, v) -> x.talk(v, 0, 1, 0));
        Due.stays("no fleet", Due.NO_FLEET, x -> x.talk(0, 0, 1, 0), BAD);
        Due.stays("nothing changes, n 0", Due.BUSY, x -> x.talk(2, 0, 3, 0), 2);
        Due.stays("nothing changes, n 3", Due.BUSY, x -> x.talk(2, 3, 0, 3), 1);
    }

    // ---- promise 24

    /** One deaf ship strikes each turn; scraped where X by 4096 leaves 0 by 7. */
    private static int wormOfOne(int n, int seed) {
        int worm = 0;
        long x = seed;
        for (int k = 0; k < n; k++) {
            x = x * 16807 % 2147483647;
            worm = worm == 5 ? 5 : worm + 1;
            if (x / 4096 % 7 == 0) {
                worm--;
            }
        }
        return worm;
    }

    /** Of one teller with credit at a time the word is believed; by LEFT she strikes a rock. */
    private static void whoSaysWhat(int seed, long x) {
        for (int teller = 0; teller < 4; teller++) {
            String credit = new String[] {"3000", "0300", "0030", "0003"}[teller];
            boolean his = x / 16 % 4 == teller;
            int want = !his ? 3 : x / 256 % 3 == 1 ? 1 : 4;
            due("seed " + seed + " teller " + teller, Due.with("f.../#../...;o11n0;" + credit).decades(1, seed, 1), want);
            int mirrored = !his ? 3 : x / 256 % 3 == 2 ? 1 : 4;
            due("seed " + seed + " teller " + teller + ", a mirror", Due.with("f.../#../...;m11n2;" + credit).decades(1, seed, 1), mirrored);
        }
    }

    private static void decadesBounds() {
        Due.sentence(24, "DECADES (n 0 .. 60; a SEED 1 .. 999999): WORM (what 0), CREDIT (1). BAD; NOT: no FLEET.");
        for (int n = 0; n <= 60; n++) {
            for (int seed : new int[] {1, 2, 7, 4711, 999998, 999999}) {
                FigureHeads one = Due.with("f.;d00n0;1234");
                due("n " + n + " seed " + seed + ": worm", one.decades(n, seed, 0), wormOfOne(n, seed));
                due("n " + n + " seed " + seed + ": credit", one.decades(n, seed, 1), 10);
            }
        }
        Due.bad("n", Due.BUSY, 0, 60, (x, v) -> x.decades(v, 1, 0));
        Due.bad("seed", Due.BUSY, 1, 999999, (x, v) -> x.decades(1, v, 0));
        Due.bad("what", Due.BUSY, 0, 1, (x, v) -> x.decades(1, 1, v));
        Due.bad("n, no fleet", Due.NO_FLEET, 0, 60, (x, v) -> x.decades(v, 1, 0));
        Due.bad("seed, no fleet", Due.NO_FLEET, 1, 999999, (x, v) -> x.decades(1, v, 1));
        Due.bad("what, no fleet", Due.NO_FLEET, 0, 1, (x, v) -> x.decades(1, 1, v));
        Due.stays("no fleet, the least", Due.NO_FLEET, x -> x.decades(0, 1, 0), NOT);
        Due.stays("no fleet, the most", Due.NO_FLEET, x -> x.decades(60, 999999, 1), NOT);
        // Worm 0 1 0 1 1, credit 6 3 1 4: what the busy one has.
        Due.stays("nothing changes, n 0", Due.BUSY, x -> x.decades(0, 1, 0), 3);
        Due.stays("nothing changes, n 0: credit", Due.BUSY, x -> x.decades(0, 999999, 1), 14);
        Due.stays("nothing changes, n 60", Due.BUSY, x -> Math.min(0, x.decades(60, 999999, 0)), 0);
        Due.sentence(24, "FORETOLD from now");
        FigureHeads acted = Due.with("f..;d00e0;1111");
        acted.drift(0);
        acted.drift(0);
        acted.learn(2);
        due("two acts on: worm", acted.decades(0, 1, 0), 1);
        due("two acts on: credit", acted.decades(0, 1, 1), 5);
        due("two acts on, a turn: worm", acted.decades(1, 1, 0), 2);
        Due.fed(acted, "f..;d00e5;").fleet();
        due("behind a fault: worm", acted.decades(0, 1, 0), 1);
        Due.sentence(24, "the SHIP that had it is SCRAPED then, if WORM is not 0");
        // X is 7 times 16807, 117649: word 0 by teller 1, and by 4096 it leaves 28, which is 0 by 7.
        due("she goes, worm 0", Due.with("f..;d00e0;0000").decades(1, 7, 0), 0);
        due("she goes, worm 1", Due.with("f..;d00e1;0000").decades(1, 7, 0), 0);
        due("she strikes, worm 0", Due.with("f.;d00e0;0000").decades(1, 7, 0), 0);
        due("she strikes, worm 4", Due.with("f.;d00e4;0000").decades(1, 7, 0), 4);
        due("she strikes, worm 5", Due.with("f.;d00e5;0000").decades(1, 7, 0), 4);
        due("she alone: not the other, of worm 5", Due.with("f.;d00e5,d00e5;0000").decades(1, 7, 0), 9);
        // X is 16807: by 4096 it leaves 4, which is not 0 by 7.
        due("not scraped, worm 5", Due.with("f..;d00e5;0000").decades(1, 1, 0), 5);
        Due.sentence(24, "each time X becomes the rest of 16807 times X by 2147483647");
        // 999999 times 16807 is 16806983193: less 7 times 2147483647 it is 1774597664, word 0 by teller 2; by 4096 it
        // leaves 433251, which is 0 by 7.
        due("still: she goes n", Due.with("f.../.../...;o11n0;0030").decades(1, 999999, 1), 4);
        due("still: a rock", Due.with("f.#./.../...;o11n0;0030").decades(1, 999999, 1), 1);
        due("still: a rock, worm", Due.with("f.#./.../...;o11n1;0040").decades(1, 999999, 0), 1);
        due("still: no rock, worm", Due.with("f.../#.#/.#.;o11n1;0040").decades(1, 999999, 0), 0);
        due("another teller says nothing", Due.with("f.#./.../...;o11n0;3303").decades(1, 999999, 1), 9);
        Due.sentence(24, "the TELLER that X by 16 (cut) leaves by 4 says the WORD that X by 256 (cut) leaves by 3");
        for (int seed = 1; seed <= 60; seed++) {
            whoSaysWhat(seed, seed * 16807L);
        }
        Due.sentence(24, "to the SHIP that X leaves by how many there are");
        // X is 16807, and leaves 1 by 6, 2 by 5, 3 by 4, 1 by 3, 1 by 2, 0 by 1; the one of worm 0 alone strikes to worm 1.
        String[] others = {"", "d00n5,", "d00n5,", "d00n5,d00n5,d00n5,", "d00n5,d00n5,", "d00n5,"};
        String[] behind = {"", "", ",d00n5", "", ",d00n5,d00n5", ",d00n5,d00n5,d00n5,d00n5"};
        for (int n = 1; n <= 6; n++) {
            FigureHeads x = Due.with("f.;" + others[n - 1] + "d00n0" + behind[n - 1] + ";0000");
            due("of " + n + " ships: how many", x.count(0), n);
            due("of " + n + " ships", x.decades(1, 1, 0), 5 * (n - 1) + 1);
        }
        due("of two ships the first", Due.with("f.;o00n0,d00n0;0030").decades(1, 999999, 1), 1);
    }

    public static void main(String[] args) {
        believedBounds();
        strikesBounds();
        courseBounds();
        courseIsRefused();
        crewBounds();
        hearingBounds();
        linksBounds();
        talkBounds();
        decadesBounds();
        Due.end();
    }
}
