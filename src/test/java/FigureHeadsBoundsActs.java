/** Promises 9 to 16 and part 2 of the document: each sentence that names a bound, with what is just within and just beside it. */
public final class FigureHeadsBoundsActs {
    private static final int BAD = Due.BAD, NOT = Due.NOT, FULL = Due.FULL, NONE = Due.NONE;
    private static final int STILL = 0, LEFT = 1, RIGHT = 2;
    private static final String OPEN = "f......../......../......../......../......../........;";

    interface Act {
        void on(FigureHeads x);
    }

    private static void due(String what, long got, long want) {
        Due.due(what, got, want);
    }

    // ---- words

    /** In the middle of nine cells, each word by each kind, looking each way. */
    private static void wordsTurn() {
        Due.sentence(9, "STILL not at all; LEFT of n is w, of w s, of s e, of e n; RIGHT the other way");
        String[] behind = {"nesw", "wnes", "eswn"};
        for (char kind : new char[] {'o', 'g', 't'}) {
            for (int word = 0; word < 3; word++) {
                turns(kind, word, behind[word]);
            }
        }
        Due.sentence(9, "by a MIRROR LEFT is RIGHT, RIGHT is LEFT");
        turns('m', STILL, behind[STILL]);
        turns('m', LEFT, behind[RIGHT]);
        turns('m', RIGHT, behind[LEFT]);
        Due.sentence(9, "a DEAF one 10: she is never turned");
        for (int word = 0; word < 3; word++) {
            turns('d', word, "nesw");
        }
        Due.sentence(9, "LEFT and RIGHT all the way round");
        goes("four times left", Due.with("f.../.../...;o11n0;9999"), LEFT, 8, 16, 17, 9);
        goes("four times right", Due.with("f.../.../...;o11n0;9999"), RIGHT, 10, 18, 17, 9);
        goes("a mirror four times left", Due.with("f.../.../...;m11n0;9999"), LEFT, 10, 18, 17, 9);
        goes("a mirror four times right", Due.with("f.../.../...;m11n0;9999"), RIGHT, 8, 16, 17, 9);
    }

    private static void turns(char kind, int word, String behind) {
        int[] cells = {1, 10, 17, 8};
        for (int looking = 0; looking < 4; looking++) {
            FigureHeads x = Due.with("f.../.../...;" + kind + "11" + "nesw".charAt(looking) + "0;9999");
            int then = "nesw".indexOf(behind.charAt(looking));
            String what = kind + " looking " + "nesw".charAt(looking) + " hears " + word;
            due(what, x.say(0, 0, word), cells[then]);
            Due.state(what, x, 0, cells[then], then, 0);
        }
    }

    private static void goes(String what, FigureHeads x, int word, int... cells) {
        int looking = x.ship(0, 2);
        for (int cell : cells) {
            due(what, x.say(0, 0, word), cell);
        }
        due(what + ", then looking", x.ship(0, 2), looking);
    }

    private static void wordsAre0To2() {
        Due.sentence(9, "A WORD is SAID: the CELL where she is then. BAD");
        Due.bad("ship", Due.BUSY, 0, 4, (x, v) -> x.say(v, 0, 0));
        Due.bad("teller", Due.BUSY, 0, 3, (x, v) -> x.say(0, v, 0));
        Due.bad("word", Due.BUSY, 0, 2, (x, v) -> x.say(0, 0, v));
        Due.bad("word of one who is not believed", Due.BUSY, 0, 2, (x, v) -> x.say(2, 0, v));
        Due.stays("no fleet", Due.NO_FLEET, x -> x.say(0, 0, 0), BAD);
        FigureHeads x = Due.with("f......;o00e0,o00e0,o00e0,o00e0,o00e0,o00e0;3333");
        due("the last ship, the last teller, the first word", x.say(5, 3, 0), 1);
        Due.credits("the last teller", x, 3, 3, 3, 4);
        due("the first ship, the first teller, the last word", x.say(0, 0, 2), 0);
        Due.state("she struck", x, 0, 0, 2, 1);
        due("ship 6 of six", x.say(6, 0, 0), BAD);
    }

    // ---- belief

    private static void believedIsAsMuchOrMore() {
        Due.sentence(9, "A TELLER is BELIEVED whose CREDIT is as much, or more.");
        String kinds = "ogdtm";
        int[] least = {3, 1, 10, 0, 1};
        int[] byWorm = {1, 1, 0, 1, 1};
        for (int worm = 0; worm <= 5; worm++) {
            for (int kind = 0; kind < 5; kind++) {
                int enough = least[kind] + byWorm[kind] * worm;
                believedFrom(kinds.charAt(kind), worm, 0, enough);
                believedFrom(kinds.charAt(kind), worm, 3, kinds.charAt(kind) == 't' ? 10 : enough);
            }
        }
    }

    /** With each credit: from so much on the word turns her south and the credit is one more, nine at most. */
    private static void believedFrom(char kind, int worm, int teller, int enough) {
        for (int credit = 0; credit <= 9; credit++) {
            FigureHeads x = Due.with("f../..;" + kind + "00e" + worm + ";" + credit + credit + credit + credit);
            boolean believed = credit >= enough;
            String what = kind + " worm " + worm + " teller " + teller + " credit " + credit;
            due(what + ": believed", x.believed(teller), believed ? 1 : 0);
            due(what + ": goes", x.say(0, teller, kind == 'm' ? LEFT : RIGHT), believed ? 8 : 1);
            due(what + ": credit", x.credit(teller), believed ? Math.min(9, credit + 1) : credit);
            due(what + ": another's credit", x.credit(1), credit);
            due(what + ": worm", x.ship(0, 3), worm);
        }
    }

    // ---- going and striking

    private static void sheStrikes() {
        Due.sentence(9, "she GOES to the next CELL there; if it is a ROCK, or there is none, she STRIKES: she stays");
        for (int looking = 0; looking < 4; looking++) {
            for (int cell = 0; cell < 48; cell++) {
                boolean none = looking == 0 ? cell < 8 : looking == 1 ? cell % 8 == 7 : looking == 2 ? cell > 39 : cell % 8 == 0;
                int ahead = cell + new int[] {-8, 1, 8, -1}[looking];
                FigureHeads x = Due.with(OPEN + "d" + cell / 8 + cell % 8 + "nesw".charAt(looking) + "0;0000");
                String what = "from " + cell + " looking " + "nesw".charAt(looking);
                due(what, x.drift(0), none ? cell : ahead);
                Due.state(what, x, 0, none ? cell : ahead, looking, none ? 1 : 0);
            }
            FigureHeads ringed = Due.with("f.#./#.#/.#.;d11" + "nesw".charAt(looking) + "0;0000");
            due("a rock, looking " + "nesw".charAt(looking), ringed.drift(0), 9);
            Due.state("a rock", ringed, 0, 9, looking, 1);
            FigureHeads narrow = Due.with("f.../...;d" + (looking == 2 ? "12" : "02") + "nesw".charAt(looking) + "0;0000");
            due("of 2 rows of 3, looking " + "nesw".charAt(looking), narrow.drift(0), new int[] {2, 2, 10, 1}[looking]);
        }
        due("a harbour is no rock", Due.with("f.o;d00e0;0000").drift(0), 1);
        due("water", Due.with("f..;d00e0;0000").drift(0), 1);
        due("out of a harbour", Due.with("fo.;d00e0;0000").drift(0), 1);
        Due.sentence(9, "WORM is 1 more (5 at most)");
        for (int worm = 0; worm <= 5; worm++) {
            FigureHeads said = Due.with("f.;o00n" + worm + ";9999");
            said.say(0, 0, STILL);
            due("struck by a word, worm " + worm, said.ship(0, 3), Math.min(5, worm + 1));
            FigureHeads drifted = Due.with("f.;o00n" + worm + ";9999");
            drifted.drift(0);
            due("struck drifting, worm " + worm, drifted.ship(0, 3), Math.min(5, worm + 1));
        }
    }

    private static void creditIs0To9() {
        int[] gone = {0, 2, 3, 4, 5, 6, 7, 8, 9, 9};
        int[] struck = {0, 0, 0, 1, 2, 3, 4, 5, 6, 7};
        for (int credit = 0; credit <= 9; credit++) {
            Due.sentence(9, "a CREDIT of 1 more (9 at most)");
            FigureHeads x = Due.with("f..;g00e0;" + credit + "000");
            x.say(0, 0, STILL);
            Due.credits("went, credit " + credit, x, gone[credit], 0, 0, 0);
            Due.sentence(9, "or, if she STRIKES, of 2 less (0 at least)");
            FigureHeads y = Due.with("f..;g00w0;0" + credit + "00");
            y.say(0, 1, STILL);
            Due.credits("struck, credit " + credit, y, 0, struck[credit], 0, 0);
            FigureHeads drifted = Due.with("f..;g00w0;" + credit + "000");
            drifted.drift(0);
            Due.credits("struck drifting, credit " + credit, drifted, credit, 0, 0, 0);
        }
        FigureHeads thomas = Due.with("f..;t00w0;0000");
        thomas.say(0, 0, STILL);
        Due.credits("believed with 0, struck", thomas, 0, 0, 0, 0);
        FigureHeads went = Due.with("f..;t00e0;0000");
        went.say(0, 0, STILL);
        Due.credits("believed with 0, went", went, 1, 0, 0, 0);
    }

    // ---- storms

    private static void twoWordsUnlike() {
        Due.sentence(10, "if both are BELIEVED and the WORDS are unlike, she stays");
        for (int word = 0; word < 3; word++) {
            for (int another = 0; another < 3; another++) {
                FigureHeads x = Due.with("f.../.../...;o11n0;0330");
                int went = new int[] {1, 8, 10}[word];
                String what = "words " + word + " and " + another;
                due(what, x.storm(0, 1, word, 2, another), word == another ? went : 9);
                Due.state(what, x, 0, word == another ? went : 9, word == another ? new int[] {0, 3, 1}[word] : 0, word == another ? 0 : 1);
                int then = word == another ? 4 : 2;
                Due.credits(what, x, 0, then, then, 0);
                due(what + ": one turn", x.count(3), 1);
                due(what + ": one act", x.count(8), 1);
            }
        }
        Due.sentence(10, "else she turns by what is BELIEVED, and GOES, as told");
        FigureHeads first = Due.with("f.../.../...;o11n0;0320");
        due("the first is believed, the second by one not", first.storm(0, 1, LEFT, 2, RIGHT), 8);
        Due.credits("the first is believed", first, 0, 4, 2, 0);
        FigureHeads second = Due.with("f.../.../...;o11n0;0230");
        due("the second is believed, the first by one not", second.storm(0, 1, LEFT, 2, RIGHT), 10);
        Due.credits("the second is believed", second, 0, 2, 4, 0);
        FigureHeads neither = Due.with("f.../.../...;o11n0;0220");
        due("neither is, by one", neither.storm(0, 1, LEFT, 2, RIGHT), 1);
        Due.credits("neither", neither, 0, 2, 2, 0);
        Due.state("neither", neither, 0, 1, 0, 0);
        FigureHeads thomas = Due.with("f.../.../...;t11n0;9999");
        due("a thomas hears teller 0 alone", thomas.storm(0, 3, LEFT, 0, RIGHT), 10);
        FigureHeads mirror = Due.with("f.../.../...;m11n0;1100");
        due("a mirror turns once", mirror.storm(0, 0, LEFT, 1, LEFT), 10);
    }

    private static void stormBounds() {
        Due.sentence(10, "WORM is 1 more (5 at most), the CREDIT of both 1 less (0 at least)");
        for (int worm = 0; worm <= 5; worm++) {
            FigureHeads x = Due.with("f..;g00e" + worm + ";9990");
            due("worm " + worm, x.storm(0, 0, LEFT, 2, STILL), 0);
            Due.state("worm " + worm, x, 0, 0, 1, Math.min(5, worm + 1));
            Due.credits("worm " + worm, x, 8, 9, 8, 0);
        }
        FigureHeads least = Due.with("f..;g00e0;1010");
        due("credit 1", least.storm(0, 2, LEFT, 0, STILL), 0);
        Due.credits("credit 1", least, 0, 0, 0, 0);
        FigureHeads enough = Due.with("f..;g00e5;6600");
        due("credit just as much", enough.storm(0, 0, LEFT, 1, STILL), 0);
        Due.credits("credit just as much", enough, 5, 5, 0, 0);
        due("then both are not believed, she goes", enough.storm(0, 0, LEFT, 1, STILL), 1);
        Due.credits("not believed", enough, 5, 5, 0, 0);
        Due.sentence(10, "a CREDIT of 1 more (9 at most), or, if she STRIKES, of 2 less (0 at least): of both");
        FigureHeads most = Due.with("f..;g00e0;8009");
        due("two like words", most.storm(0, 0, STILL, 3, STILL), 1);
        Due.credits("9 at most", most, 9, 0, 0, 9);
        FigureHeads low = Due.with("f..;g00w0;1002");
        due("two like words, she strikes", low.storm(0, 3, STILL, 0, STILL), 0);
        Due.credits("0 at least", low, 0, 0, 0, 0);
        Due.state("one strike", low, 0, 0, 3, 1);
        FigureHeads high = Due.with("f..;g00w5;9008");
        due("two like words, worm 5, she strikes", high.storm(0, 3, STILL, 0, STILL), 0);
        Due.credits("2 less", high, 7, 0, 0, 6);
        Due.state("worm 5 at most", high, 0, 0, 3, 5);
        Due.sentence(10, "A STORM of two unlike TELLERS: the CELL where she is then. BAD");
        for (int teller = 0; teller < 4; teller++) {
            int v = teller;
            Due.stays("teller " + v + " twice, words unlike", Due.BUSY, x -> x.storm(0, v, LEFT, v, RIGHT), BAD);
            Due.stays("teller " + v + " twice, words alike", Due.BUSY, x -> x.storm(0, v, LEFT, v, LEFT), BAD);
        }
        Due.bad("ship", Due.BUSY, 0, 4, (x, v) -> x.storm(v, 0, 0, 1, 0));
        Due.bad("teller", Due.BUSY, 0, 3, (x, v) -> x.storm(0, v, 0, 1, 0));
        Due.bad("word", Due.BUSY, 0, 2, (x, v) -> x.storm(0, 0, v, 1, 0));
        Due.bad("other", Due.BUSY, 0, 3, (x, v) -> x.storm(0, 0, 0, v, 0));
        Due.bad("another", Due.BUSY, 0, 2, (x, v) -> x.storm(0, 0, 0, 1, v));
        Due.bad("two like words that are none", Due.BUSY, 0, 2, (x, v) -> x.storm(0, 0, v, 1, v));
        Due.bad("two like tellers that are none", Due.BUSY, 0, 3, (x, v) -> x.storm(0, v, 0, v, 1));
        Due.stays("no fleet", Due.NO_FLEET, x -> x.storm(0, 0, 0, 1, 0), BAD);
        FigureHeads last = Due.with("f......;o00e0,o00e0,o00e0,o00e0,o00e0,o00e0;3333");
        due("the last ship, the last teller, the last words", last.storm(5, 3, RIGHT, 0, RIGHT), 0);
        due("ship 6 of six", last.storm(6, 3, 0, 0, 0), BAD);
    }

    // ---- drifting, scraping, learning

    private static void driftBounds() {
        Due.sentence(11, "She DRIFTS: the CELL where she is then. BAD");
        Due.bad("ship", Due.BUSY, 0, 4, FigureHeads::drift);
        Due.stays("no fleet", Due.NO_FLEET, x -> x.drift(0), BAD);
        FigureHeads x = Due.with("f......;o00e0,o00e0,o00e0,o00e0,o00e0,o00e0;9999");
        due("the last ship", x.drift(5), 1);
        due("the first ship", x.drift(0), 1);
        Due.credits("nothing being said", x, 9, 9, 9, 9);
        due("ship 6 of six", x.drift(6), BAD);
    }

    private static void aTurnIsFarFromFull() {
        Due.sentence(9, "FULL: it is TURN 9999.");
        FigureHeads said = Due.with("f.;o00n0;0000");
        FigureHeads stormed = Due.with("f.;o00n0;0000");
        FigureHeads drifted = Due.with("f.;o00n0;0000");
        // With its 13 bytes, fleet() and the count an object has been used for 512 calls then: no turn beyond can be reached.
        for (int turn = 1; turn <= 497; turn++) {
            due("say, turn " + turn, said.say(0, 0, 0), 0);
            due("storm, turn " + turn, stormed.storm(0, 0, 0, 1, 0), 0);
            due("drift, turn " + turn, drifted.drift(0), 0);
        }
        due("turns said", said.count(3), 497);
        due("turns stormed", stormed.count(3), 497);
        due("turns drifted", drifted.count(3), 497);
        due("the constant", FigureHeads.FULL, FULL);
    }

    private static void scrapeBounds() {
        Due.sentence(12, "SCRAPED: WORM then. BAD; NOT: it is 0.");
        FigureHeads x = Due.with("f.;o00n5,d00n1,o00n0;9999");
        for (int worm = 4; worm >= 0; worm--) {
            due("scraped", x.scrape(0), worm);
            due("worm", x.ship(0, 3), worm);
        }
        due("it is 0", x.scrape(0), NOT);
        due("of 1", x.scrape(1), 0);
        due("it is 0 from the first", x.scrape(2), NOT);
        due("acts", x.count(8), 6);
        due("no turn", x.count(3), 0);
        Due.credits("credit stays", x, 9, 9, 9, 9);
        Due.stays("it is 0", Due.BUSY, y -> y.scrape(0), NOT);
        Due.bad("ship", Due.BUSY, 0, 4, FigureHeads::scrape);
        Due.stays("no fleet", Due.NO_FLEET, y -> y.scrape(0), BAD);
        FigureHeads six = Due.with("f.;o00n0,o00n0,o00n0,o00n0,o00n0,o00n1;0000");
        due("the last ship", six.scrape(5), 0);
        due("ship 6 of six", six.scrape(6), BAD);
    }

    private static FigureHeads learned() {
        FigureHeads x = Due.idle();
        for (int k = 0; k < 5; k++) {
            x.learn(3);
        }
        return x;
    }

    private static void learnBounds() {
        Due.sentence(13, "A TELLER LEARNS: CREDIT then. BAD; NOT: it is 9.");
        FigureHeads x = Due.with("f.;o00n3;0890");
        for (int credit = 1; credit <= 9; credit++) {
            due("learned", x.learn(0), credit);
            due("credit", x.credit(0), credit);
        }
        due("it is 9", x.learn(0), NOT);
        due("of 8", x.learn(1), 9);
        due("it is 9 from the first", x.learn(2), NOT);
        due("the last teller", x.learn(3), 1);
        Due.credits("all", x, 9, 9, 9, 1);
        due("acts", x.count(8), 11);
        due("no turn", x.count(3), 0);
        Due.state("the ship stays", x, 0, 0, 0, 3);
        // Storms took teller 3 from 5 to 4: he has learned five times.
        due("credit of the busy one", learned().credit(3), 9);
        Due.stays("it is 9", new Due.Made(FigureHeadsBoundsActs::learned), y -> y.learn(3), NOT);
        Due.bad("teller", Due.BUSY, 0, 3, FigureHeads::learn);
        for (int teller = 0; teller < 4; teller++) {
            int v = teller;
            Due.stays("no fleet, teller " + v, Due.NO_FLEET, y -> y.learn(v), BAD);
        }
    }

    // ---- undoing

    private static final Act[] ACTS = {
        x -> x.say(0, 0, RIGHT), x -> x.storm(0, 0, LEFT, 1, STILL), x -> x.drift(0), x -> x.scrape(1), x -> x.learn(3)};
    private static final int[] TURNS = {1, 1, 1, 0, 0};
    private static final String WORLD = "f......../......../......../........;o11e1,d33s5;9902";

    private static void actsAndTurns() {
        Due.sentence(14, "ACTS: a WORD is SAID; a STORM; she DRIFTS; a SHIP is SCRAPED; a TELLER LEARNS. The first three are a TURN each.");
        for (int k = 0; k < 5; k++) {
            FigureHeads x = Due.with(WORLD);
            ACTS[k].on(x);
            due("act " + k + ": can be undone", x.count(8), 1);
            due("act " + k + ": turns", x.count(3), TURNS[k]);
            due("act " + k + ": undone", x.undo(), 0);
            sameWorld("act " + k + " undone", x, Due.with(WORLD));
            due("act " + k + ": no more", x.undo(), NONE);
            sameWorld("act " + k + " undone, no more", x, Due.with(WORLD));
        }
    }

    private static void sameWorld(String what, FigureHeads x, FigureHeads y) {
        for (int ship = 0; ship < 2; ship++) {
            for (int part = 0; part < 4; part++) {
                due(what + ": ship " + ship + " " + part, x.ship(ship, part), y.ship(ship, part));
            }
        }
        for (int teller = 0; teller < 4; teller++) {
            due(what + ": credit " + teller, x.credit(teller), y.credit(teller));
        }
        due(what + ": turn", x.count(3), y.count(3));
    }

    /** Words all over the sea, so that each state is another. */
    private static void wander(FigureHeads x, int from, int to) {
        for (int k = from; k < to; k++) {
            switch (k % 7) {
                case 0: x.say(0, k % 2, k % 3); break;
                case 3: x.storm(0, 0, k % 3, 1, k % 2); break;
                case 5: x.drift(1); break;
                default: x.say(k % 2, 0, k % 5 % 3); break;
            }
        }
    }

    private static void theLatest24CanBeUndone() {
        Due.sentence(14, "the latest 24 can be undone, the latest first");
        for (int n : new int[] {0, 1, 2, 23, 24, 25, 26, 47, 48, 49, 72, 73}) {
            FigureHeads x = Due.with(WORLD);
            wander(x, 0, n);
            int kept = Math.min(24, n);
            due(n + " acts", x.count(8), kept);
            for (int left = kept - 1; left >= 0; left--) {
                due(n + " acts, undone", x.undo(), left);
                due(n + " acts, can be undone", x.count(8), left);
                if (left < 2 || left > 21) {
                    FigureHeads y = Due.with(WORLD);
                    wander(y, 0, n - kept + left);
                    sameWorld(n + " acts, " + left + " left", x, y);
                }
            }
            due(n + " acts, no more", x.undo(), NONE);
            FigureHeads y = Due.with(WORLD);
            wander(y, 0, n - kept);
            sameWorld(n + " acts, no more", x, y);
        }
        Due.sentence(14, "the latest 24: the one ahead of them stays done, of whatever sort");
        for (int k = 0; k < 5; k++) {
            FigureHeads x = Due.with(WORLD);
            ACTS[k].on(x);
            for (int n = 0; n < 24; n++) {
                x.drift(1);
            }
            undoAll(x, 24);
            FigureHeads y = Due.with(WORLD);
            ACTS[k].on(y);
            sameWorld("act " + k + " and 24 more", x, y);
            FigureHeads all = Due.with(WORLD);
            ACTS[k].on(all);
            for (int n = 0; n < 23; n++) {
                all.drift(1);
            }
            undoAll(all, 24);
            sameWorld("act " + k + " and 23 more", all, Due.with(WORLD));
        }
        Due.sentence(14, "the latest 24: also behind some that were undone");
        FigureHeads x = Due.with(WORLD);
        wander(x, 0, 20);
        for (int k = 19; k >= 10; k--) {
            due("undone", x.undo(), k);
        }
        wander(x, 10, 40);
        undoAll(x, 24);
        FigureHeads y = Due.with(WORLD);
        wander(y, 0, 16);
        sameWorld("40 acts less 24", x, y);
    }

    private static void undoAll(FigureHeads x, int n) {
        for (int left = n - 1; left >= 0; left--) {
            due("undone", x.undo(), left);
        }
        due("no more", x.undo(), NONE);
    }

    private static void undoOfWhatIsBounded() {
        Due.sentence(14, "The latest ACT is undone: what was at its bound is as it was");
        FigureHeads nine = Due.with("f...;g00e0;9000");
        nine.say(0, 0, STILL);
        nine.undo();
        Due.credits("9 at most", nine, 9, 0, 0, 0);
        FigureHeads one = Due.with("f.;g00e5;0600");
        one.say(0, 1, LEFT);
        one.undo();
        Due.credits("2 less", one, 0, 6, 0, 0);
        Due.state("worm 5 at most", one, 0, 0, 1, 5);
        FigureHeads low = Due.with("f.;g00e0;0100");
        low.say(0, 1, LEFT);
        low.undo();
        Due.credits("0 at least", low, 0, 1, 0, 0);
        Due.state("looking and worm too", low, 0, 0, 1, 0);
        Due.sentence(14, "how many more can be. NONE: none can.");
        Due.stays("none ever was", Due.NO_FLEET, FigureHeads::undo, NONE);
        Due.stays("none but the fleet", new Due.Made(() -> Due.sheeted(Due.with(Due.FIVE))), FigureHeads::undo, NONE);
    }

    // ---- images

    private static void imageBounds() {
        Due.sentence(15, "An IMAGE (0, 1) is kept of the FLEET: the TURN. BAD; NOT: no FLEET.");
        Due.bad("image", Due.BUSY, 0, 1, FigureHeads::image);
        Due.bad("image, no fleet", Due.NO_FLEET, 0, 1, FigureHeads::image);
        Due.stays("no fleet, image 0", Due.NO_FLEET, x -> x.image(0), NOT);
        Due.stays("no fleet, image 1", Due.NO_FLEET, x -> x.image(1), NOT);
        FigureHeads x = Due.with(WORLD);
        due("image 0 at turn 0", x.image(0), 0);
        x.drift(0);
        due("image 1 at turn 1", x.image(1), 1);
        due("an image is no act", x.count(8), 1);
        x.drift(0);
        due("image 1 again, at turn 2", x.image(1), 2);
        x.learn(3);
        due("image 0 is the first", x.restore(0), 0);
        sameWorld("image 0", x, Due.with(WORLD));
        due("image 1 is the later one", x.restore(1), 2);
        FigureHeads y = Due.with(WORLD);
        y.drift(0);
        y.drift(0);
        sameWorld("image 1", x, y);
        Due.sentence(16, "The FLEET is as the IMAGE was (nothing can be undone then): the TURN. BAD; NOT: none was kept.");
        Due.bad("restore", Due.BUSY, 0, 1, FigureHeads::restore);
        Due.bad("restore, none kept", Due.NO_FLEET, 0, 1, FigureHeads::restore);
        Due.stays("no fleet, restore 0", Due.NO_FLEET, z -> z.restore(0), NOT);
        Due.stays("no fleet, restore 1", Due.NO_FLEET, z -> z.restore(1), NOT);
        Due.stays("only image 0 was kept", new Due.Made(() -> imaged(0)), z -> z.restore(1), NOT);
        Due.stays("only image 1 was kept", new Due.Made(() -> imaged(1)), z -> z.restore(0), NOT);
        FigureHeads acted = Due.with(WORLD);
        acted.image(1);
        wander(acted, 0, 30);
        due("acts ahead", acted.count(8), 24);
        due("restored", acted.restore(1), 0);
        due("acts then", acted.count(8), 0);
        due("nothing can be undone then", acted.undo(), NONE);
        sameWorld("restored", acted, Due.with(WORLD));
        wander(acted, 0, 3);
        due("what comes then can be", acted.count(8), 3);
        undoAll(acted, 3);
        sameWorld("undone to the image", acted, Due.with(WORLD));
        due("an image can be restored again", acted.restore(1), 0);
    }

    private static FigureHeads imaged(int k) {
        FigureHeads x = Due.with(Due.FIVE);
        x.drift(0);
        x.image(k);
        x.drift(1);
        return x;
    }

    private static void anImageHasItsSea() {
        Due.sentence(16, "The FLEET is as the IMAGE was: the greatest, and the least, in one another's place");
        FigureHeads x = Due.with("f......../......../......../......../......../.......o;o57e5,g00n4;9876");
        x.drift(0);
        x.image(0);
        Due.fed(x, "f#o;m01s1;1234").fleet();
        x.image(1);
        due("the greatest", x.restore(0), 1);
        int[] great = {2, 8, 6, 1, 9, 30, 1, 1, 0};
        for (int what = 0; what < 9; what++) {
            due("the greatest: count " + what, x.count(what), great[what]);
        }
        due("the greatest: cell 0", x.sea(0), 0);
        due("the greatest: cell 47", x.sea(47), 2);
        Due.state("the greatest", x, 1, 0, 0, 4);
        due("the least", x.restore(1), 0);
        int[] least = {1, 2, 1, 0, 1, 10, 1, 1, 0};
        for (int what = 0; what < 9; what++) {
            due("the least: count " + what, x.count(what), least[what]);
        }
        due("the least: cell 0", x.sea(0), 1);
        due("the least: cell 2", x.sea(2), BAD);
        due("the least: ship 1", x.ship(1, 0), BAD);
        due("the least: kind", x.ship(0, 0), 5);
    }

    public static void main(String[] args) {
        wordsTurn();
        wordsAre0To2();
        believedIsAsMuchOrMore();
        sheStrikes();
        creditIs0To9();
        twoWordsUnlike();
        stormBounds();
        driftBounds();
        aTurnIsFarFromFull();
        scrapeBounds();
        learnBounds();
        actsAndTurns();
        theLatest24CanBeUndone();
        undoOfWhatIsBounded();
        imageBounds();
        anImageHasItsSea();
        Due.end();
    }
}
