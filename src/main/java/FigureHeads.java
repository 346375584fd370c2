import java.util.Arrays;

/**
 * Ships that go where their figureheads look, and four tellers whom these believe or not.
 * Everything a call needs is made in the constructor and used again, so calls make no objects.
 */
public final class FigureHeads {
    public static final int BAD = -1, NOT = -2, FULL = -3, NONE = -4, NULL = -11, CAST = -12, INDEX = -13, SIZE = -14;

    private static final int MOST_BYTES = 130, MOST_ROWS = 6, MOST_COLUMNS = 8, MOST_SHIPS = 6;
    private static final int TELLERS = 4, WORDS = 3, KINDS = 6, SIDES = 4, IMAGES = 2, SHEETS = 4, LANES = 4;
    private static final int MOST_WORM = 5, MOST_CREDIT = 9, LAST_TURN = 9999, MOST_ACTS = 24, MOST_ITEMS = 24;
    private static final int FARTHEST = 12, LONGEST_TALK = 3, LONGEST_ROW = 6, MOST_PAIRS = 10, TENTHS = 10;
    private static final int LONGEST_DECADES = 60, GREATEST_SEED = 999999;
    private static final int HEAD = 0, OAK = 1, GILT = 2, DEAF = 3, THOMAS = 4, MIRROR = 5;
    private static final int ROCK = 1, HARBOUR = 2;
    private static final int LEFT = 1, RIGHT = 2;
    private static final int DEAFNESS = 10;
    private static final int FAULTS = -100;

    /** For each kind the one over it; over a head there is none. */
    private static final int[] OVER = {-1, HEAD, OAK, HEAD, OAK, GILT};
    private static final int[] ROW_STEP = {-1, 0, 1, 0};
    private static final int[] COLUMN_STEP = {0, 1, 0, -1};

    private final Tape tape = new Tape();
    private final Fleet now = new Fleet();
    private final Fleet draft = new Fleet();
    private final Fleet[] images = new Fleet[IMAGES];
    private final Acts acts = new Acts(now.sea);
    private final Voyage[] voyages = new Voyage[LONGEST_ROW + 1];
    private final Chart chart = new Chart(now.sea);
    private final Sheet[] sheets = new Sheet[SHEETS];
    private final int[] reached = new int[KINDS];

    public FigureHeads() {
        for (int k = 0; k < IMAGES; k++) {
            images[k] = new Fleet();
        }
        for (int k = 0; k < voyages.length; k++) {
            voyages[k] = new Voyage(now.sea);
        }
        for (int k = 0; k < SHEETS; k++) {
            sheets[k] = new Sheet();
        }
    }

    // ---- 1 what is told

    public int feed(int letter) {
        if (letter < 0 || letter > 255) {
            return BAD;
        }
        return tape.add(letter) ? tape.length : FULL;
    }

    public int fleet() {
        boolean whole = tape.readFleet(draft);
        tape.length = 0;
        if (!whole) {
            return FAULTS - tape.place;
        }
        now.become(draft);
        acts.forget();
        return now.ships;
    }

    public int ship(int ship, int what) {
        if (!now.hasShip(ship)) {
            return BAD;
        }
        switch (what) {
            case 0: return now.kind[ship];
            case 1: return now.cell[ship];
            case 2: return now.looking[ship];
            case 3: return now.worm[ship];
            default: return BAD;
        }
    }

    public int as(int ship, int kind) {
        if (!now.hasShip(ship) || kind < 0 || kind >= KINDS) {
            return BAD;
        }
        return isUnder(now.kind[ship], kind) ? ship : CAST;
    }

    public int sea(int cell) {
        return now.sea.has(cell) ? now.sea.at(cell) : BAD;
    }

    public int credit(int teller) {
        return now.stands() && isTeller(teller) ? now.credit[teller] : BAD;
    }

    public int doubt(int ship, int teller) {
        return now.hasShip(ship) && isTeller(teller) ? now.doubtOf(ship, teller) : BAD;
    }

    // ---- 2 acts

    public int say(int ship, int teller, int word) {
        if (!now.hasShip(ship) || !isTeller(teller) || !isWord(word)) {
            return BAD;
        }
        if (now.turn >= LAST_TURN) {
            return FULL;
        }
        Voyage voyage = setOut(ship);
        voyage.hear(teller, word);
        return arrive(ship, voyage);
    }

    public int storm(int ship, int teller, int word, int other, int another) {
        if (!now.hasShip(ship) || !isTeller(teller) || !isWord(word)
                || !isTeller(other) || !isWord(another) || teller == other) {
            return BAD;
        }
        if (now.turn >= LAST_TURN) {
            return FULL;
        }
        Voyage voyage = setOut(ship);
        voyage.hearTwo(teller, word, other, another);
        return arrive(ship, voyage);
    }

    public int drift(int ship) {
        if (!now.hasShip(ship)) {
            return BAD;
        }
        if (now.turn >= LAST_TURN) {
            return FULL;
        }
        Voyage voyage = setOut(ship);
        voyage.goOn();
        return arrive(ship, voyage);
    }

    public int scrape(int ship) {
        if (!now.hasShip(ship)) {
            return BAD;
        }
        if (now.worm[ship] <= 0) {
            return NOT;
        }
        acts.keep(now, ship);
        now.worm[ship]--;
        return now.worm[ship];
    }

    public int learn(int teller) {
        if (!now.stands() || !isTeller(teller)) {
            return BAD;
        }
        if (now.credit[teller] >= MOST_CREDIT) {
            return NOT;
        }
        // An act is kept with a ship; she stays as she is here, so any one will do.
        acts.keep(now, 0);
        now.credit[teller]++;
        return now.credit[teller];
    }

    public int undo() {
        return acts.giveBack(now) ? acts.kept : NONE;
    }

    public int image(int k) {
        if (k < 0 || k >= IMAGES) {
            return BAD;
        }
        if (!now.stands()) {
            return NOT;
        }
        images[k].become(now);
        return now.turn;
    }

    public int restore(int k) {
        if (k < 0 || k >= IMAGES) {
            return BAD;
        }
        if (!images[k].stands()) {
            return NOT;
        }
        now.become(images[k]);
        acts.forget();
        return now.turn;
    }

    // ---- 3 foretold

    public int believed(int teller) {
        if (!now.stands() || !isTeller(teller)) {
            return BAD;
        }
        int set = 0;
        for (int ship = 0; ship < now.ships; ship++) {
            if (now.trusts(ship, teller)) {
                set |= 1 << ship;
            }
        }
        return set;
    }

    public int strikes(int ship) {
        if (!now.hasShip(ship)) {
            return BAD;
        }
        Voyage voyage = voyages[0];
        voyage.board(now, ship);
        int drifts = 1;
        // The sea is nowhere longer than this, so she strikes sooner.
        while (drifts <= MOST_COLUMNS && !voyage.goOn()) {
            drifts++;
        }
        return drifts;
    }

    public int course(int ship, int teller, int cell, int k) {
        if (!now.hasShip(ship) || !isTeller(teller) || !now.sea.has(cell) || k < -1) {
            return BAD;
        }
        if (now.sea.at(cell) == ROCK) {
            return NOT;
        }
        Voyage voyage = voyages[0];
        voyage.board(now, ship);
        int end = chart.search(voyage, teller, cell);
        if (end < 0) {
            return NONE;
        }
        return k < 0 ? chart.depth[end] : chart.wordTo(end, k);
    }

    public int crew(int ship) {
        if (ship == -1) {
            return now.stands() ? mostCrewed(0, 0) : NOT;
        }
        return now.hasShip(ship) ? crewOf(ship) : BAD;
    }

    public int hears(int ship, int d) {
        if (!now.hasShip(ship) || !isHearing(d)) {
            return BAD;
        }
        return now.heardBy(ship, now.everyShip(), d);
    }

    public int links(int d) {
        if (!isHearing(d)) {
            return BAD;
        }
        if (!now.stands()) {
            return NOT;
        }
        int set = 0;
        for (int ship = 0; ship < now.ships; ship++) {
            if (now.isLink(ship, d)) {
                set |= 1 << ship;
            }
        }
        return set;
    }

    public int talk(int ship, int a, int b, int n) {
        if (!now.hasShip(ship) || !isTeller(a) || !isTeller(b) || a == b || n < 0 || n > LONGEST_TALK) {
            return BAD;
        }
        if (now.sea.harbours() == 0) {
            return NONE;
        }
        voyages[0].board(now, ship);
        return talked(0, 2 * n, a, b);
    }

    public int decades(int n, int seed, int what) {
        if (n < 0 || n > LONGEST_DECADES || seed < 1 || seed > GREATEST_SEED || !isPart(what)) {
            return BAD;
        }
        if (!now.stands()) {
            return NOT;
        }
        draft.become(now);
        long x = seed;
        for (int turn = 0; turn < n; turn++) {
            x = 16807L * x % 2147483647L;
            passDecade(x);
        }
        return what == 0 ? draft.allWorm() : draft.allCredit();
    }

    // ---- 4 sheets

    public int sheet(int sheet, int lane, int n) {
        if (!isSheet(sheet) || !isLane(lane) || n > MOST_ITEMS) {
            return BAD;
        }
        if (n < 0) {
            return SIZE;
        }
        sheets[sheet].renew(lane, n);
        return n;
    }

    public int drop(int sheet) {
        if (!isSheet(sheet)) {
            return BAD;
        }
        Sheet row = sheets[sheet];
        if (!row.there) {
            return NULL;
        }
        row.there = false;
        return row.length;
    }

    public long item(int sheet, int lane, int i, long v) {
        if (!isSheet(sheet) || !isLane(lane)) {
            return BAD;
        }
        int refusal = refusalOf(sheet, lane, i, 1);
        return refusal < 0 ? refusal : sheets[sheet].put(i, v);
    }

    public int copy(int from, int i, int to, int j, int n) {
        if (!isSheet(from) || !isSheet(to)) {
            return BAD;
        }
        Sheet source = sheets[from];
        Sheet target = sheets[to];
        if (!source.there || !target.there) {
            return NULL;
        }
        if (source.lane != target.lane) {
            return CAST;
        }
        if (!source.holds(i, n) || !target.holds(j, n)) {
            return INDEX;
        }
        System.arraycopy(source.items, i, target.items, j, n);
        return n;
    }

    public int log(int ship, int teller, int sheet, int lane, int i, int n) {
        if (!canTell(ship, teller, sheet, lane) || n < 1 || n > MOST_ITEMS) {
            return BAD;
        }
        int refusal = refusalOf(sheet, lane, i, n);
        if (refusal < 0) {
            return refusal;
        }
        Sheet row = sheets[sheet];
        if (!row.holdsWords(i, n, 1)) {
            return NOT;
        }
        Voyage voyage = voyages[0];
        voyage.board(now, ship);
        for (int k = i; k < i + n; k++) {
            voyage.hear(teller, (int) row.items[k]);
            row.put(k, voyage.cell);
        }
        return n;
    }

    public int rows(int ship, int teller, int sheet, int lane, int i, int n, int what) {
        if (!canTell(ship, teller, sheet, lane) || n < 1 || n > LONGEST_ROW || !isPart(what)) {
            return BAD;
        }
        int refusal = refusalOf(sheet, lane, i, n);
        if (refusal < 0) {
            return refusal;
        }
        voyages[0].board(now, ship);
        return what == 0
                ? countRows(0, teller, sheets[sheet], i, n)
                : firstRow(0, 0, teller, sheets[sheet], i, n);
    }

    public int kinds(int ship, int teller, int sheet, int lane, int i, int n, int what) {
        if (!canTell(ship, teller, sheet, lane) || n < 1 || n > MOST_PAIRS || !isPart(what)) {
            return BAD;
        }
        int refusal = refusalOf(sheet, lane, i, 2 * n);
        if (refusal < 0) {
            return refusal;
        }
        if (!sheets[sheet].holdsWords(i, n, 2)) {
            return NOT;
        }
        int set = fittingKinds(ship, teller, sheets[sheet], i, n);
        return what == 0 ? set : wordToTry(set, teller);
    }

    public int fog(int ship, int teller, int sheet, int n, int cell, int q, int what) {
        if (!canTell(ship, teller, sheet, 0) || n < 1 || n > LONGEST_ROW
                || !now.sea.has(cell) || q < 0 || q > TENTHS || !isPart(what)) {
            return BAD;
        }
        int refusal = refusalOf(sheet, 0, 0, n);
        if (refusal < 0) {
            return refusal;
        }
        if (!sheets[sheet].holdsWords(0, n, 1)) {
            return NOT;
        }
        voyages[0].board(now, ship);
        int above = fogged(0, teller, sheets[sheet], n, cell, q);
        int below = tenToThe(n);
        int shared = greatestDivisor(above, below);
        if (shared <= 0) {
            return BAD;
        }
        return (what == 0 ? above : below) / shared;
    }

    public int count(int what) {
        switch (what) {
            case 0: return now.ships;
            case 1: return now.sea.columns;
            case 2: return now.sea.rows;
            case 3: return now.turn;
            case 4: return now.allWorm();
            case 5: return now.allCredit();
            case 6: return now.sea.harbours();
            case 7: return now.harboured();
            case 8: return acts.kept;
            case 9: return tape.length;
            default: return BAD;
        }
    }

    // ---- what is as told

    private static boolean isTeller(int teller) {
        return teller >= 0 && teller < TELLERS;
    }

    private static boolean isWord(long word) {
        return word >= 0 && word < WORDS;
    }

    private static boolean isPart(int what) {
        return what == 0 || what == 1;
    }

    private static boolean isHearing(int d) {
        return d >= 0 && d <= FARTHEST;
    }

    private static boolean isSheet(int sheet) {
        return sheet >= 0 && sheet < SHEETS;
    }

    private static boolean isLane(int lane) {
        return lane >= 0 && lane < LANES;
    }

    private boolean canTell(int ship, int teller, int sheet, int lane) {
        return now.hasShip(ship) && isTeller(teller) && isSheet(sheet) && isLane(lane);
    }

    /** What keeps n items from i on from being taken as a row of a lane; 0: nothing. */
    private int refusalOf(int sheet, int lane, int i, int n) {
        Sheet row = sheets[sheet];
        if (!row.there) {
            return NULL;
        }
        if (row.lane != lane) {
            return CAST;
        }
        return row.holds(i, n) ? 0 : INDEX;
    }

    // ---- kinds and words

    private static boolean isUnder(int kind, int over) {
        int k = kind;
        for (int level = 0; level < KINDS && k >= 0 && k < KINDS; level++) {
            if (k == over) {
                return true;
            }
            k = OVER[k];
        }
        return false;
    }

    private static int doubtBy(int kind, int worm, int teller) {
        int oak = 3 + worm;
        switch (kind) {
            case OAK: return oak;
            case GILT: return oak - 2;
            case MIRROR: return oak - 2;
            case THOMAS: return teller == 0 ? oak - 3 : DEAFNESS;
            default: return DEAFNESS;
        }
    }

    /** Where she is looking behind a word that is believed. */
    private static int turned(int kind, int looking, int word) {
        int heard = kind == MIRROR ? mirrored(word) : word;
        if (heard == LEFT) {
            return (looking + 3) % SIDES;
        }
        return heard == RIGHT ? (looking + 1) % SIDES : looking;
    }

    private static int mirrored(int word) {
        if (word == LEFT) {
            return RIGHT;
        }
        return word == RIGHT ? LEFT : word;
    }

    // ---- acts: a ship is taken out of the fleet, and put back

    private Voyage setOut(int ship) {
        acts.keep(now, ship);
        Voyage voyage = voyages[0];
        voyage.board(now, ship);
        return voyage;
    }

    private int arrive(int ship, Voyage voyage) {
        voyage.land(now, ship);
        now.turn++;
        return voyage.cell;
    }

    // ---- crew

    /** How many ships from this one on can have another teller each, whom they believe. */
    private int mostCrewed(int ship, int taken) {
        if (ship >= now.ships || ship >= MOST_SHIPS) {
            return 0;
        }
        int most = mostCrewed(ship + 1, taken);
        for (int teller = 0; teller < TELLERS; teller++) {
            if (mayTake(ship, teller, taken)) {
                most = Math.max(most, 1 + mostCrewed(ship + 1, taken | 1 << teller));
            }
        }
        return most;
    }

    private boolean mayTake(int ship, int teller, int taken) {
        return (taken & 1 << teller) == 0 && now.trusts(ship, teller);
    }

    private int crewOf(int wanted) {
        int taken = 0;
        for (int ship = 0; ship < wanted; ship++) {
            int teller = firstTeller(ship, taken);
            if (teller >= 0) {
                taken |= 1 << teller;
            }
        }
        return firstTeller(wanted, taken);
    }

    private int firstTeller(int ship, int taken) {
        int most = mostCrewed(ship, taken);
        for (int teller = 0; teller < TELLERS; teller++) {
            if (mayTake(ship, teller, taken) && 1 + mostCrewed(ship + 1, taken | 1 << teller) == most) {
                return teller;
            }
        }
        return NONE;
    }

    // ---- thoughts: voyages[depth] is how it stands behind so many words

    private Voyage nextVoyage(int depth) {
        Voyage next = voyages[depth + 1];
        next.follow(voyages[depth]);
        return next;
    }

    private boolean canGoDeeper(int depth, int words) {
        return depth >= 0 && depth < words && depth + 1 < voyages.length;
    }

    private int talked(int depth, int words, int a, int b) {
        if (!canGoDeeper(depth, words)) {
            return now.sea.awayFromHarbour(voyages[depth].cell);
        }
        boolean little = depth % 2 == 0;
        int best = -1;
        for (int word = 0; word < WORDS; word++) {
            nextVoyage(depth).hear(little ? a : b, word);
            int away = talked(depth + 1, words, a, b);
            if (best < 0 || (little ? away < best : away > best)) {
                best = away;
            }
        }
        return best;
    }

    private int countRows(int depth, int teller, Sheet row, int i, int n) {
        if (!canGoDeeper(depth, n)) {
            return 1;
        }
        int found = 0;
        for (int word = 0; word < WORDS; word++) {
            if (leadsTo(depth, teller, word, row.items[i + depth])) {
                found += countRows(depth + 1, teller, row, i, n);
            }
        }
        return found;
    }

    private int firstRow(int depth, int number, int teller, Sheet row, int i, int n) {
        if (!canGoDeeper(depth, n)) {
            return number;
        }
        for (int word = 0; word < WORDS; word++) {
            if (leadsTo(depth, teller, word, row.items[i + depth])) {
                int found = firstRow(depth + 1, WORDS * number + word, teller, row, i, n);
                if (found >= 0) {
                    return found;
                }
            }
        }
        return NONE;
    }

    private boolean leadsTo(int depth, int teller, int word, long cell) {
        Voyage next = nextVoyage(depth);
        next.hear(teller, word);
        return next.cell == cell;
    }

    /** In so many parts of 10 to the n she is in the cell behind all words. */
    private int fogged(int depth, int teller, Sheet row, int n, int cell, int q) {
        if (!canGoDeeper(depth, n)) {
            return voyages[depth].cell == cell ? 1 : 0;
        }
        nextVoyage(depth).hear(teller, (int) row.items[depth]);
        int heard = fogged(depth + 1, teller, row, n, cell, q);
        nextVoyage(depth).goOn();
        int unheard = fogged(depth + 1, teller, row, n, cell, q);
        return (TENTHS - q) * heard + q * unheard;
    }

    private static int tenToThe(int n) {
        int power = 1;
        for (int k = 0; k < n; k++) {
            power *= TENTHS;
        }
        return power;
    }

    private static int greatestDivisor(int a, int b) {
        int greater = a;
        int lesser = b;
        // No two ints need more steps than this.
        for (int step = 0; step < 64 && lesser != 0; step++) {
            int rest = greater % lesser;
            greater = lesser;
            lesser = rest;
        }
        return greater;
    }

    /** The kinds that fit; voyages[kind] is left where she then is. */
    private int fittingKinds(int ship, int teller, Sheet row, int i, int n) {
        int set = 0;
        for (int kind = OAK; kind < KINDS; kind++) {
            Voyage voyage = voyages[kind];
            voyage.board(now, ship);
            voyage.kind = kind;
            if (voyage.keepsTo(teller, row, i, n)) {
                set |= 1 << kind;
            }
        }
        return set;
    }

    private int wordToTry(int set, int teller) {
        if (set == 0) {
            return NONE;
        }
        int best = 0;
        int least = KINDS;
        for (int word = 0; word < WORDS; word++) {
            int part = greatestPart(set, teller, word);
            if (part < least) {
                least = part;
                best = word;
            }
        }
        return best;
    }

    /** How many kinds of the set a word brings into one cell, at most. */
    private int greatestPart(int set, int teller, int word) {
        int greatest = 0;
        for (int kind = OAK; kind < KINDS; kind++) {
            if ((set & 1 << kind) != 0) {
                reached[kind] = cellBehind(voyages[kind], teller, word);
                greatest = Math.max(greatest, partAlike(set, kind));
            }
        }
        return greatest;
    }

    private int cellBehind(Voyage voyage, int teller, int word) {
        Voyage trial = voyages[0];
        trial.follow(voyage);
        trial.hear(teller, word);
        return trial.cell;
    }

    /** How many kinds of the set, up to this one, have reached the cell of this one. */
    private int partAlike(int set, int last) {
        int alike = 0;
        for (int kind = OAK; kind <= last; kind++) {
            if ((set & 1 << kind) != 0 && reached[kind] == reached[last]) {
                alike++;
            }
        }
        return alike;
    }

    // ---- decades

    private void passDecade(long x) {
        if (draft.ships <= 0) {
            return;
        }
        int ship = (int) (x % draft.ships);
        int teller = (int) (x / 16 % TELLERS);
        int word = (int) (x / 256 % WORDS);
        Voyage voyage = voyages[0];
        voyage.board(draft, ship);
        voyage.hear(teller, word);
        if (x / 4096 % 7 == 0 && voyage.worm > 0) {
            voyage.worm--;
        }
        voyage.land(draft, ship);
    }

    /** The cells, numbered 8 times the row and the column. */
    private static final class Sea {
        final int[] cells = new int[MOST_ROWS * MOST_COLUMNS];
        int rows = 0;
        int columns = 0;

        void become(Sea other) {
            System.arraycopy(other.cells, 0, cells, 0, cells.length);
            rows = other.rows;
            columns = other.columns;
        }

        void empty() {
            rows = 0;
            columns = 0;
        }

        static int cellOf(int row, int column) {
            return MOST_COLUMNS * row + column;
        }

        boolean has(int cell) {
            return cell >= 0 && cell < MOST_COLUMNS * rows && cell % MOST_COLUMNS < columns;
        }

        int at(int cell) {
            return has(cell) ? cells[cell] : ROCK;
        }

        /** The next cell there; below 0: she strikes. */
        int ahead(int cell, int looking) {
            int row = cell / MOST_COLUMNS + ROW_STEP[looking];
            int column = cell % MOST_COLUMNS + COLUMN_STEP[looking];
            if (row < 0 || row >= rows || column < 0 || column >= columns) {
                return NONE;
            }
            int next = cellOf(row, column);
            return cells[next] == ROCK ? NONE : next;
        }

        static int away(int a, int b) {
            return Math.abs(a / MOST_COLUMNS - b / MOST_COLUMNS) + Math.abs(a % MOST_COLUMNS - b % MOST_COLUMNS);
        }

        int harbours() {
            int found = 0;
            for (int cell = 0; cell < cells.length; cell++) {
                if (at(cell) == HARBOUR) {
                    found++;
                }
            }
            return found;
        }

        int awayFromHarbour(int from) {
            int least = MOST_ROWS + MOST_COLUMNS;
            for (int cell = 0; cell < cells.length; cell++) {
                if (at(cell) == HARBOUR) {
                    least = Math.min(least, away(from, cell));
                }
            }
            return least;
        }
    }

    /** Sea, ships, tellers and the turn; one without ships is none. */
    private static final class Fleet {
        final Sea sea = new Sea();
        final int[] kind = new int[MOST_SHIPS];
        final int[] cell = new int[MOST_SHIPS];
        final int[] looking = new int[MOST_SHIPS];
        final int[] worm = new int[MOST_SHIPS];
        final int[] credit = new int[TELLERS];
        int ships = 0;
        int turn = 0;

        void become(Fleet other) {
            sea.become(other.sea);
            System.arraycopy(other.kind, 0, kind, 0, MOST_SHIPS);
            System.arraycopy(other.cell, 0, cell, 0, MOST_SHIPS);
            System.arraycopy(other.looking, 0, looking, 0, MOST_SHIPS);
            System.arraycopy(other.worm, 0, worm, 0, MOST_SHIPS);
            System.arraycopy(other.credit, 0, credit, 0, TELLERS);
            ships = other.ships;
            turn = other.turn;
        }

        void empty() {
            sea.empty();
            ships = 0;
            turn = 0;
        }

        boolean stands() {
            return ships > 0;
        }

        boolean hasShip(int ship) {
            return ship >= 0 && ship < ships;
        }

        int everyShip() {
            return (1 << ships) - 1;
        }

        int doubtOf(int ship, int teller) {
            return doubtBy(kind[ship], worm[ship], teller);
        }

        boolean trusts(int ship, int teller) {
            return credit[teller] >= doubtBy(kind[ship], worm[ship], teller);
        }

        int allWorm() {
            int sum = 0;
            for (int ship = 0; ship < ships; ship++) {
                sum += worm[ship];
            }
            return sum;
        }

        int allCredit() {
            int sum = 0;
            for (int teller = 0; teller < TELLERS; teller++) {
                sum += credit[teller];
            }
            return sum;
        }

        int harboured() {
            int set = 0;
            for (int ship = 0; ship < ships; ship++) {
                if (sea.at(cell[ship]) == HARBOUR) {
                    set |= 1 << ship;
                }
            }
            return set;
        }

        /** The ships of a set that a ship hears, by way of such alone, with her. */
        int heardBy(int ship, int among, int d) {
            int heard = 1 << ship;
            for (int round = 1; round < ships; round++) {
                heard |= nearAny(heard, d) & among;
            }
            return heard;
        }

        private int nearAny(int set, int d) {
            int near = 0;
            for (int a = 0; a < ships; a++) {
                for (int b = 0; b < ships; b++) {
                    if ((set & 1 << a) != 0 && Sea.away(cell[a], cell[b]) <= d) {
                        near |= 1 << b;
                    }
                }
            }
            return near;
        }

        boolean isLink(int link, int d) {
            int others = everyShip() & ~(1 << link);
            for (int ship = 0; ship < ships; ship++) {
                if (ship != link && (heardBy(ship, everyShip(), d) & others) != heardBy(ship, others, d)) {
                    return true;
                }
            }
            return false;
        }
    }

    /** One ship and the tellers' credit apart from the fleet, so that acts and thoughts go by the same rules. */
    private static final class Voyage {
        final Sea sea;
        final int[] credit = new int[TELLERS];
        int kind = 0;
        int cell = 0;
        int looking = 0;
        int worm = 0;

        Voyage(Sea sea) {
            this.sea = sea;
        }

        void board(Fleet fleet, int ship) {
            kind = fleet.kind[ship];
            cell = fleet.cell[ship];
            looking = fleet.looking[ship];
            worm = fleet.worm[ship];
            System.arraycopy(fleet.credit, 0, credit, 0, TELLERS);
        }

        void land(Fleet fleet, int ship) {
            fleet.kind[ship] = kind;
            fleet.cell[ship] = cell;
            fleet.looking[ship] = looking;
            fleet.worm[ship] = worm;
            System.arraycopy(credit, 0, fleet.credit, 0, TELLERS);
        }

        void follow(Voyage other) {
            kind = other.kind;
            cell = other.cell;
            looking = other.looking;
            worm = other.worm;
            System.arraycopy(other.credit, 0, credit, 0, TELLERS);
        }

        boolean trusts(int teller) {
            return credit[teller] >= doubtBy(kind, worm, teller);
        }

        void hear(int teller, int word) {
            boolean trusted = trusts(teller);
            if (trusted) {
                looking = turned(kind, looking, word);
            }
            boolean struck = goOn();
            if (trusted) {
                settle(teller, struck);
            }
        }

        void hearTwo(int teller, int word, int other, int another) {
            boolean first = trusts(teller);
            boolean second = trusts(other);
            if (first && second && word != another) {
                beTorn(teller, other);
                return;
            }
            if (first || second) {
                looking = turned(kind, looking, first ? word : another);
            }
            boolean struck = goOn();
            if (first) {
                settle(teller, struck);
            }
            if (second) {
                settle(other, struck);
            }
        }

        private void beTorn(int teller, int other) {
            beWormed();
            credit[teller] = Math.max(0, credit[teller] - 1);
            credit[other] = Math.max(0, credit[other] - 1);
        }

        /** Whether she strikes. */
        boolean goOn() {
            int next = sea.ahead(cell, looking);
            if (next < 0) {
                beWormed();
                return true;
            }
            cell = next;
            return false;
        }

        private void beWormed() {
            worm = Math.min(MOST_WORM, worm + 1);
        }

        private void settle(int teller, boolean struck) {
            credit[teller] = struck ? Math.max(0, credit[teller] - 2) : Math.min(MOST_CREDIT, credit[teller] + 1);
        }

        /** Whether n pairs of a word and a cell come out so. */
        boolean keepsTo(int teller, Sheet row, int i, int n) {
            for (int pair = 0; pair < n; pair++) {
                hear(teller, (int) row.items[i + 2 * pair]);
                if (cell != row.items[i + 2 * pair + 1]) {
                    return false;
                }
            }
            return true;
        }
    }

    /** The latest acts: of each how the ship, the tellers and the turn were ahead of it. */
    private static final class Acts {
        final Voyage[] before = new Voyage[MOST_ACTS];
        final int[] ship = new int[MOST_ACTS];
        final int[] turn = new int[MOST_ACTS];
        int kept = 0;
        private int next = 0;

        Acts(Sea sea) {
            for (int k = 0; k < MOST_ACTS; k++) {
                before[k] = new Voyage(sea);
            }
        }

        void forget() {
            kept = 0;
        }

        void keep(Fleet fleet, int who) {
            before[next].board(fleet, who);
            ship[next] = who;
            turn[next] = fleet.turn;
            next = (next + 1) % MOST_ACTS;
            kept = Math.min(MOST_ACTS, kept + 1);
        }

        boolean giveBack(Fleet fleet) {
            if (kept <= 0) {
                return false;
            }
            next = (next + MOST_ACTS - 1) % MOST_ACTS;
            kept--;
            before[next].land(fleet, ship[next]);
            fleet.turn = turn[next];
            return true;
        }
    }

    /** The bytes that came, and how far they can be read as a fleet. */
    private static final class Tape {
        final int[] bytes = new int[MOST_BYTES];
        int length = 0;
        int place = 0;

        boolean add(int letter) {
            if (length >= MOST_BYTES) {
                return false;
            }
            bytes[length] = letter;
            length++;
            return true;
        }

        /** If it answers false, the place is that of the fault. */
        boolean readFleet(Fleet fleet) {
            place = 0;
            fleet.empty();
            return takes('f') && readSea(fleet.sea) && readShips(fleet) && readCredit(fleet) && place == length;
        }

        private int here() {
            return place >= 0 && place < length && place < MOST_BYTES ? bytes[place] : -1;
        }

        private boolean takes(char sign) {
            if (here() != sign) {
                return false;
            }
            place++;
            return true;
        }

        /** Which one of the signs stands here; below 0: none of them. */
        private int oneOf(String signs) {
            int letter = here();
            return letter < 0 ? -1 : signs.indexOf((char) letter);
        }

        /** Which one of the first so many figures stands here; below 0: none of them. */
        private int figureBelow(int bound) {
            int figure = here() - '0';
            return figure >= 0 && figure < bound ? figure : -1;
        }

        private boolean readSea(Sea sea) {
            for (int row = 0; row < MOST_ROWS; row++) {
                if (!readRow(sea, row)) {
                    return false;
                }
                sea.rows = row + 1;
                if (takes(';')) {
                    return true;
                }
                if (row + 1 >= MOST_ROWS || !takes('/')) {
                    return false;
                }
            }
            return false;
        }

        private boolean readRow(Sea sea, int row) {
            int most = row == 0 ? MOST_COLUMNS : sea.columns;
            int column = 0;
            while (column < most && oneOf(".#o") >= 0) {
                sea.cells[Sea.cellOf(row, column)] = oneOf(".#o");
                column++;
                place++;
            }
            if (row == 0) {
                sea.columns = column;
            }
            return column > 0 && column == sea.columns;
        }

        private boolean readShips(Fleet fleet) {
            for (int ship = 0; ship < MOST_SHIPS; ship++) {
                if (!readShip(fleet, ship)) {
                    return false;
                }
                fleet.ships = ship + 1;
                if (takes(';')) {
                    return true;
                }
                if (ship + 1 >= MOST_SHIPS || !takes(',')) {
                    return false;
                }
            }
            return false;
        }

        private boolean readShip(Fleet fleet, int ship) {
            int kind = oneOf("ogdtm");
            if (kind < 0) {
                return false;
            }
            place++;
            fleet.kind[ship] = OAK + kind;
            if (!readCell(fleet, ship)) {
                return false;
            }
            int looking = oneOf("nesw");
            if (looking < 0) {
                return false;
            }
            place++;
            fleet.looking[ship] = looking;
            int worm = figureBelow(MOST_WORM + 1);
            if (worm < 0) {
                return false;
            }
            place++;
            fleet.worm[ship] = worm;
            return true;
        }

        private boolean readCell(Fleet fleet, int ship) {
            int row = figureBelow(fleet.sea.rows);
            if (row < 0) {
                return false;
            }
            place++;
            int column = figureBelow(fleet.sea.columns);
            if (column < 0 || fleet.sea.at(Sea.cellOf(row, column)) == ROCK) {
                return false;
            }
            place++;
            fleet.cell[ship] = Sea.cellOf(row, column);
            return true;
        }

        private boolean readCredit(Fleet fleet) {
            for (int teller = 0; teller < TELLERS; teller++) {
                int figure = figureBelow(MOST_CREDIT + 1);
                if (figure < 0) {
                    return false;
                }
                place++;
                fleet.credit[teller] = figure;
            }
            return true;
        }
    }

    /** The search for a course, over places: a cell and where she is looking there. */
    private static final class Chart {
        private static final int PLACES = MOST_ROWS * MOST_COLUMNS * SIDES;
        final Sea sea;
        final int[] queue = new int[PLACES];
        final int[] from = new int[PLACES];
        final int[] word = new int[PLACES];
        final int[] depth = new int[PLACES];
        private int found = 0;

        Chart(Sea sea) {
            this.sea = sea;
        }

        /**
         * The place where the first of the shortest rows ends; below 0: there is none. Places come into the queue
         * by the words that lead to them, so the first one that is in the goal is that of the first row.
         */
        int search(Voyage start, int teller, int goal) {
            Arrays.fill(depth, -1);
            // Unless she strikes, worm stays and credit grows: who is believed now is so all the way.
            boolean trusted = start.trusts(teller);
            found = 0;
            mark(SIDES * start.cell + start.looking, 0, 0, 0);
            for (int k = 0; k < found && k < PLACES; k++) {
                int place = queue[k];
                if (place / SIDES == goal) {
                    return place;
                }
                spread(place, start.kind, trusted);
            }
            return NONE;
        }

        private void spread(int place, int kind, boolean trusted) {
            for (int said = 0; said < WORDS; said++) {
                int looking = trusted ? turned(kind, place % SIDES, said) : place % SIDES;
                int next = sea.ahead(place / SIDES, looking);
                if (next >= 0) {
                    mark(SIDES * next + looking, place, said, depth[place] + 1);
                }
            }
        }

        private void mark(int place, int before, int said, int words) {
            if (depth[place] >= 0 || found >= PLACES) {
                return;
            }
            queue[found] = place;
            found++;
            from[place] = before;
            word[place] = said;
            depth[place] = words;
        }

        int wordTo(int end, int k) {
            if (k < 0 || k >= depth[end]) {
                return NONE;
            }
            int place = end;
            for (int words = depth[end]; words > k + 1; words--) {
                place = from[place];
            }
            return word[place];
        }
    }

    /** A row of a lane, or nothing; longs have room for the items of every lane. */
    private static final class Sheet {
        final long[] items = new long[MOST_ITEMS];
        boolean there = false;
        int lane = 0;
        int length = 0;

        void renew(int newLane, int n) {
            Arrays.fill(items, 0L);
            there = true;
            lane = newLane;
            length = n;
        }

        boolean holds(int i, int n) {
            return i >= 0 && n >= 0 && n <= length && i <= length - n;
        }

        /** Whether each step-th one of the items from i on, n of them, is a word. */
        boolean holdsWords(int i, int n, int step) {
            for (int k = 0; k < n; k++) {
                if (!isWord(items[i + step * k])) {
                    return false;
                }
            }
            return true;
        }

        long put(int i, long v) {
            items[i] = narrowed(v);
            return items[i];
        }

        private long narrowed(long v) {
            switch (lane) {
                case 0: return (byte) v;
                case 1: return (short) v;
                case 2: return (int) v;
                default: return v;
            }
        }
    }
}
