import java.lang.reflect.Array;
import java.math.BigInteger;
import java.util.ArrayDeque;
import java.util.ArrayList;
import java.util.Arrays;
import java.util.Deque;
import java.util.HashMap;
import java.util.List;
import java.util.Map;
import java.util.Random;
import java.util.regex.Matcher;
import java.util.regex.Pattern;

/**
 * Random runs of calls, each answer compared with that of a second program, which does the same by the document in
 * another way: whole worlds that never change, all cases tried, the library's patterns and numbers.
 */
public final class FigureHeadsAgainstPlain {
    private static final int BAD = -1, NOT = -2, FULL = -3, NONE = -4, NULL = -11, CAST = -12, INDEX = -13, SIZE = -14;
    private static final int RUNS = 600, CALLS = 512;

    record Ship(char kind, int row, int column, char looking, int worm) {
        Ship wormed() {
            return new Ship(kind, row, column, looking, Math.min(5, worm + 1));
        }

        Ship as(char other) {
            return new Ship(other, row, column, looking, worm);
        }

        int cell() {
            return row * 8 + column;
        }

        int doubt(int teller) {
            return switch (kind) {
                case 'o' -> 3 + worm;
                case 'g', 'm' -> 3 + worm - 2;
                case 't' -> teller == 0 ? 3 + worm - 3 : 10;
                default -> 10;
            };
        }

        Ship turned(int word) {
            String round = kind == 'm' ? "neswn" : "nwsen";
            String back = kind == 'm' ? "nwsen" : "neswn";
            String way = word == 1 ? round : back;
            return word == 0 ? this : new Ship(kind, row, column, way.charAt(way.indexOf(looking) + 1), worm);
        }
    }

    record World(List<String> sea, List<Ship> ships, List<Integer> credit, int turn) {
        World with(int k, Ship ship) {
            List<Ship> all = new ArrayList<>(ships);
            all.set(k, ship);
            return new World(sea, List.copyOf(all), credit, turn);
        }

        World credited(int teller, int by) {
            List<Integer> all = new ArrayList<>(credit);
            all.set(teller, Math.max(0, Math.min(9, all.get(teller) + by)));
            return new World(sea, ships, List.copyOf(all), turn);
        }

        World later() {
            return new World(sea, ships, credit, turn + 1);
        }

        boolean isCell(int cell) {
            return cell >= 0 && cell / 8 < sea.size() && cell % 8 < sea.get(0).length();
        }

        char at(int cell) {
            return sea.get(cell / 8).charAt(cell % 8);
        }

        boolean believes(int ship, int teller) {
            return credit.get(teller) >= ships.get(ship).doubt(teller);
        }

        boolean strikesNext(int k) {
            Ship s = ships.get(k);
            int row = s.row + (s.looking == 's' ? 1 : s.looking == 'n' ? -1 : 0);
            int column = s.column + (s.looking == 'e' ? 1 : s.looking == 'w' ? -1 : 0);
            return row < 0 || row >= sea.size() || column < 0 || column >= sea.get(0).length()
                    || sea.get(row).charAt(column) == '#';
        }

        World drifted(int k) {
            Ship s = ships.get(k);
            if (strikesNext(k)) {
                return with(k, s.wormed());
            }
            int row = s.row + (s.looking == 's' ? 1 : s.looking == 'n' ? -1 : 0);
            int column = s.column + (s.looking == 'e' ? 1 : s.looking == 'w' ? -1 : 0);
            return with(k, new Ship(s.kind, row, column, s.looking, s.worm));
        }

        World said(int k, int teller, int word) {
            if (!believes(k, teller)) {
                return drifted(k);
            }
            World then = with(k, ships.get(k).turned(word));
            return then.drifted(k).credited(teller, then.strikesNext(k) ? -2 : 1);
        }

        World stormed(int k, int a, int wordA, int b, int wordB) {
            boolean byA = believes(k, a);
            boolean byB = believes(k, b);
            if (!byA) {
                return said(k, b, wordB);
            }
            if (!byB) {
                return said(k, a, wordA);
            }
            if (wordA != wordB) {
                return with(k, ships.get(k).wormed()).credited(a, -1).credited(b, -1);
            }
            World then = with(k, ships.get(k).turned(wordA));
            int by = then.strikesNext(k) ? -2 : 1;
            return then.drifted(k).credited(a, by).credited(b, by);
        }

        int sumWorm() {
            return ships.stream().mapToInt(Ship::worm).sum();
        }

        int sumCredit() {
            return credit.stream().mapToInt(Integer::intValue).sum();
        }

        int harbours() {
            return (int) String.join("", sea).chars().filter(c -> c == 'o').count();
        }

        int toHarbour(int k) {
            int least = 99;
            for (int cell = 0; cell < 48; cell++) {
                if (isCell(cell) && at(cell) == 'o') {
                    least = Math.min(least, away(ships.get(k).cell(), cell));
                }
            }
            return least;
        }

        static int away(int a, int b) {
            return Math.abs(a / 8 - b / 8) + Math.abs(a % 8 - b % 8);
        }
    }

    /** The document's face by worlds. */
    static final class Plain {
        final StringBuilder tape = new StringBuilder();
        World world = null;
        final Deque<World> before = new ArrayDeque<>();
        final World[] images = new World[2];
        final Object[] sheets = new Object[4];

        boolean ship(int k) {
            return world != null && k >= 0 && k < world.ships.size();
        }

        static boolean in(int v, int least, int most) {
            return v >= least && v <= most;
        }

        int feed(int letter) {
            if (!in(letter, 0, 255)) return BAD;
            if (tape.length() == 130) return FULL;
            return tape.append((char) letter).length();
        }

        static Pattern pattern(int rows, int columns) {
            String ship = "[ogdtm][0-" + (rows - 1) + "][0-" + (columns - 1) + "][nesw][0-5]";
            String row = "[.#o]{" + columns + "}";
            return Pattern.compile("f(" + row + "(?:/" + row + "){" + (rows - 1) + "});(" + ship + "(?:," + ship
                    + "){0,5});([0-9]{4})", Pattern.DOTALL);
        }

        static final Pattern[] PATTERNS = new Pattern[48];

        static {
            for (int k = 0; k < 48; k++) {
                PATTERNS[k] = pattern(k / 8 + 1, k % 8 + 1);
            }
        }

        static boolean canStand(String text) {
            for (Pattern p : PATTERNS) {
                Matcher m = p.matcher(text);
                if (m.matches() || m.hitEnd()) return !onRock(text);
            }
            return false;
        }

        /** A text whose last byte is a column, which makes a rock. */
        static boolean onRock(String text) {
            String[] parts = text.split(";", -1);
            if (parts.length != 2) return false;
            String last = parts[1].substring(parts[1].lastIndexOf(',') + 1);
            if (last.length() != 3) return false;
            return parts[0].substring(1).split("/")[last.charAt(1) - '0'].charAt(last.charAt(2) - '0') == '#';
        }

        int fleet() {
            String text = tape.toString();
            tape.setLength(0);
            for (int k = 1; k <= text.length(); k++) {
                if (!canStand(text.substring(0, k))) return -100 - (k - 1);
            }
            for (Pattern p : PATTERNS) {
                Matcher m = p.matcher(text);
                if (m.matches()) {
                    List<Ship> ships = new ArrayList<>();
                    for (String s : m.group(2).split(",")) {
                        ships.add(new Ship(s.charAt(0), s.charAt(1) - '0', s.charAt(2) - '0', s.charAt(3), s.charAt(4) - '0'));
                    }
                    List<Integer> credit = new ArrayList<>();
                    m.group(3).chars().forEach(c -> credit.add(c - '0'));
                    world = new World(List.of(m.group(1).split("/")), List.copyOf(ships), List.copyOf(credit), 0);
                    before.clear();
                    return ships.size();
                }
            }
            return -100 - text.length();
        }

        int ship(int k, int what) {
            if (!ship(k) || !in(what, 0, 3)) return BAD;
            Ship s = world.ships.get(k);
            return new int[] {" ogdtm".indexOf(s.kind), s.cell(), "nesw".indexOf(s.looking), s.worm}[what];
        }

        int as(int k, int kind) {
            if (!ship(k) || !in(kind, 0, 5)) return BAD;
            String[] those = {"ogdtm", "ogtm", "gm", "d", "t", "m"};
            return those[kind].indexOf(world.ships.get(k).kind) >= 0 ? k : CAST;
        }

        int sea(int cell) {
            return world != null && world.isCell(cell) ? ".#o".indexOf(world.at(cell)) : BAD;
        }

        int credit(int teller) {
            return world != null && in(teller, 0, 3) ? world.credit.get(teller) : BAD;
        }

        int doubt(int k, int teller) {
            return ship(k) && in(teller, 0, 3) ? world.ships.get(k).doubt(teller) : BAD;
        }

        void act(World then) {
            before.addLast(world);
            if (before.size() > 24) before.removeFirst();
            world = then;
        }

        int say(int k, int teller, int word) {
            if (!ship(k) || !in(teller, 0, 3) || !in(word, 0, 2)) return BAD;
            act(world.said(k, teller, word).later());
            return world.ships.get(k).cell();
        }

        int storm(int k, int teller, int word, int other, int another) {
            if (!ship(k) || !in(teller, 0, 3) || !in(word, 0, 2) || !in(other, 0, 3) || !in(another, 0, 2)
                    || teller == other) return BAD;
            act(world.stormed(k, teller, word, other, another).later());
            return world.ships.get(k).cell();
        }

        int drift(int k) {
            if (!ship(k)) return BAD;
            act(world.drifted(k).later());
            return world.ships.get(k).cell();
        }

        int scrape(int k) {
            if (!ship(k)) return BAD;
            Ship s = world.ships.get(k);
            if (s.worm == 0) return NOT;
            act(world.with(k, new Ship(s.kind, s.row, s.column, s.looking, s.worm - 1)));
            return s.worm - 1;
        }

        int learn(int teller) {
            if (world == null || !in(teller, 0, 3)) return BAD;
            if (world.credit.get(teller) == 9) return NOT;
            act(world.credited(teller, 1));
            return world.credit.get(teller);
        }

        int undo() {
            if (before.isEmpty()) return NONE;
            world = before.removeLast();
            return before.size();
        }

        int image(int k) {
            if (!in(k, 0, 1)) return BAD;
            if (world == null) return NOT;
            images[k] = world;
            return world.turn;
        }

        int restore(int k) {
            if (!in(k, 0, 1)) return BAD;
            if (images[k] == null) return NOT;
            world = images[k];
            before.clear();
            return world.turn;
        }

        int believed(int teller) {
            if (world == null || !in(teller, 0, 3)) return BAD;
            int set = 0;
            for (int k = 0; k < world.ships.size(); k++) {
                set += world.believes(k, teller) ? 1 << k : 0;
            }
            return set;
        }

        int strikes(int k) {
            if (!ship(k)) return BAD;
            World w = world;
            int n = 1;
            for (; !w.strikesNext(k); n++) w = w.drifted(k);
            return n;
        }

        /** Whole worlds, the shortest way from each to the goal; then word by word along it. */
        int course(int k, int teller, int cell, int which) {
            if (!ship(k) || !in(teller, 0, 3) || !world.isCell(cell) || which < -1) return BAD;
            if (world.at(cell) == '#') return NOT;
            Map<World, Integer> far = new HashMap<>();
            List<World> seen = new ArrayList<>(List.of(world));
            far.put(world, 9999);
            for (int i = 0; i < seen.size(); i++) {
                for (int word = 0; word < 3; word++) {
                    World next = unstruck(seen.get(i), k, teller, word);
                    if (next != null && far.put(next, 9999) == null) seen.add(next);
                }
            }
            boolean more = true;
            while (more) {
                more = false;
                for (int i = seen.size() - 1; i >= 0; i--) {
                    int best = wayFrom(seen.get(i), k, teller, cell, far);
                    if (best < far.get(seen.get(i))) {
                        far.put(seen.get(i), best);
                        more = true;
                    }
                }
            }
            int length = far.get(world);
            if (length == 9999) return NONE;
            if (which == -1) return length;
            if (which >= length) return NONE;
            World w = world;
            for (int i = 0;; i++) {
                for (int word = 0; word < 3; word++) {
                    World next = unstruck(w, k, teller, word);
                    if (next != null && far.get(next) == far.get(w) - 1) {
                        if (i == which) return word;
                        w = next;
                        break;
                    }
                }
            }
        }

        static int wayFrom(World w, int k, int teller, int cell, Map<World, Integer> far) {
            if (w.ships.get(k).cell() == cell) return 0;
            int best = 9999;
            for (int word = 0; word < 3; word++) {
                World next = unstruck(w, k, teller, word);
                if (next != null) best = Math.min(best, far.get(next) + 1);
            }
            return best;
        }

        static World unstruck(World w, int k, int teller, int word) {
            World next = w.said(k, teller, word);
            return next.ships.get(k).cell() == w.ships.get(k).cell() ? null : next;
        }

        int crew(int k) {
            if (k == -1 && world == null) return NOT;
            if (k != -1 && !ship(k)) return BAD;
            int n = world.ships.size();
            int[] best = null;
            int most = -1;
            int all = (int) Math.pow(5, n);
            for (int number = 0; number < all; number++) {
                int[] row = new int[n];
                int rest = number;
                for (int i = n - 1; i >= 0; i--) {
                    row[i] = rest % 5;
                    rest /= 5;
                }
                int served = served(row);
                if (served > most) {
                    most = served;
                    best = row;
                }
            }
            if (k == -1) return most;
            return best[k] == 4 ? NONE : best[k];
        }

        int served(int[] row) {
            int[] uses = new int[5];
            int served = 0;
            for (int i = 0; i < row.length; i++) {
                if (row[i] == 4) continue;
                if (++uses[row[i]] > 1 || !world.believes(i, row[i])) return -1;
                served++;
            }
            return served;
        }

        /** Which hear which, with one left out (or none: -1). */
        boolean[][] hearing(int d, int without) {
            int n = world.ships.size();
            boolean[][] hear = new boolean[n][n];
            for (int a = 0; a < n; a++) {
                for (int b = 0; b < n; b++) {
                    hear[a][b] = a != without && b != without
                            && World.away(world.ships.get(a).cell(), world.ships.get(b).cell()) <= d;
                }
            }
            for (int m = 0; m < n; m++) {
                for (int a = 0; a < n; a++) {
                    for (int b = 0; b < n; b++) {
                        hear[a][b] |= hear[a][m] && hear[m][b];
                    }
                }
            }
            return hear;
        }

        int hears(int k, int d) {
            if (!ship(k) || !in(d, 0, 12)) return BAD;
            int set = 0;
            for (int b = 0; b < world.ships.size(); b++) {
                set += hearing(d, -1)[k][b] ? 1 << b : 0;
            }
            return set;
        }

        int links(int d) {
            if (!in(d, 0, 12)) return BAD;
            if (world == null) return NOT;
            int set = 0;
            boolean[][] all = hearing(d, -1);
            for (int k = 0; k < all.length; k++) {
                boolean[][] less = hearing(d, k);
                boolean link = false;
                for (int a = 0; a < all.length; a++) {
                    for (int b = 0; b < all.length; b++) {
                        link |= a != k && b != k && all[a][b] && !less[a][b];
                    }
                }
                set += link ? 1 << k : 0;
            }
            return set;
        }

        int talk(int k, int a, int b, int n) {
            if (!ship(k) || !in(a, 0, 3) || !in(b, 0, 3) || a == b || !in(n, 0, 3)) return BAD;
            if (world.harbours() == 0) return NONE;
            return talk(world, k, a, b, n);
        }

        static int talk(World w, int k, int a, int b, int n) {
            if (n == 0) return w.toHarbour(k);
            int least = 99;
            for (int first = 0; first < 3; first++) {
                World then = w.said(k, a, first);
                int most = -1;
                for (int second = 0; second < 3; second++) {
                    most = Math.max(most, talk(then.said(k, b, second), k, a, b, n - 1));
                }
                least = Math.min(least, most);
            }
            return least;
        }

        int decades(int n, int seed, int what) {
            if (!in(n, 0, 60) || !in(seed, 1, 999999) || !in(what, 0, 1)) return BAD;
            if (world == null) return NOT;
            World w = world;
            BigInteger x = BigInteger.valueOf(seed);
            for (int i = 0; i < n; i++) {
                x = x.multiply(BigInteger.valueOf(16807)).mod(BigInteger.valueOf(2147483647));
                int v = x.intValueExact();
                int k = v % w.ships.size();
                w = w.said(k, (v >> 4) % 4, (v >> 8) % 3);
                Ship s = w.ships.get(k);
                if ((v >> 12) % 7 == 0 && s.worm > 0) {
                    w = w.with(k, new Ship(s.kind, s.row, s.column, s.looking, s.worm - 1));
                }
            }
            return what == 0 ? w.sumWorm() : w.sumCredit();
        }

        int sheet(int sheet, int lane, int n) {
            if (!in(sheet, 0, 3) || !in(lane, 0, 3) || n > 24) return BAD;
            if (n < 0) return SIZE;
            sheets[sheet] = switch (lane) {
                case 0 -> new byte[n];
                case 1 -> new short[n];
                case 2 -> new int[n];
                default -> new long[n];
            };
            return n;
        }

        int drop(int sheet) {
            if (!in(sheet, 0, 3)) return BAD;
            if (sheets[sheet] == null) return NULL;
            int n = Array.getLength(sheets[sheet]);
            sheets[sheet] = null;
            return n;
        }

        static int lane(Object row) {
            return row instanceof byte[] ? 0 : row instanceof short[] ? 1 : row instanceof int[] ? 2 : 3;
        }

        static void put(Object row, int i, long v) {
            if (row instanceof byte[] a) a[i] = (byte) v;
            if (row instanceof short[] a) a[i] = (short) v;
            if (row instanceof int[] a) a[i] = (int) v;
            if (row instanceof long[] a) a[i] = v;
        }

        int refused(int sheet, int lane, long i, long n) {
            if (sheets[sheet] == null) return NULL;
            if (lane(sheets[sheet]) != lane) return CAST;
            return i < 0 || n < 0 || i + n > Array.getLength(sheets[sheet]) ? INDEX : 0;
        }

        long[] taken(int sheet, int i, int n) {
            long[] row = new long[n];
            for (int k = 0; k < n; k++) row[k] = Array.getLong(sheets[sheet], i + k);
            return row;
        }

        long item(int sheet, int lane, int i, long v) {
            if (!in(sheet, 0, 3) || !in(lane, 0, 3)) return BAD;
            if (refused(sheet, lane, i, 1) != 0) return refused(sheet, lane, i, 1);
            put(sheets[sheet], i, v);
            return Array.getLong(sheets[sheet], i);
        }

        int copy(int from, int i, int to, int j, int n) {
            if (!in(from, 0, 3) || !in(to, 0, 3)) return BAD;
            if (sheets[from] == null || sheets[to] == null) return NULL;
            if (lane(sheets[from]) != lane(sheets[to])) return CAST;
            if (refused(from, lane(sheets[from]), i, n) != 0 || refused(to, lane(sheets[to]), j, n) != 0) return INDEX;
            long[] row = taken(from, i, n);
            for (int k = 0; k < n; k++) put(sheets[to], j + k, row[k]);
            return n;
        }

        boolean told(int k, int teller, int sheet, int lane) {
            return ship(k) && in(teller, 0, 3) && in(sheet, 0, 3) && in(lane, 0, 3);
        }

        int log(int k, int teller, int sheet, int lane, int i, int n) {
            if (!told(k, teller, sheet, lane) || !in(n, 1, 24)) return BAD;
            if (refused(sheet, lane, i, n) != 0) return refused(sheet, lane, i, n);
            long[] words = taken(sheet, i, n);
            if (Arrays.stream(words).anyMatch(v -> v < 0 || v > 2)) return NOT;
            World w = world;
            for (int j = 0; j < n; j++) {
                w = w.said(k, teller, (int) words[j]);
                put(sheets[sheet], i + j, w.ships.get(k).cell());
            }
            return n;
        }

        int rows(int k, int teller, int sheet, int lane, int i, int n, int what) {
            if (!told(k, teller, sheet, lane) || !in(n, 1, 6) || !in(what, 0, 1)) return BAD;
            if (refused(sheet, lane, i, n) != 0) return refused(sheet, lane, i, n);
            long[] cells = taken(sheet, i, n);
            List<Integer> found = new ArrayList<>();
            int all = (int) Math.pow(3, n);
            for (int number = 0; number < all; number++) {
                String words = Integer.toString(number + all, 3).substring(1);
                World w = world;
                boolean fits = true;
                for (int j = 0; j < n && fits; j++) {
                    w = w.said(k, teller, words.charAt(j) - '0');
                    fits = w.ships.get(k).cell() == cells[j];
                }
                if (fits) found.add(number);
            }
            if (what == 0) return found.size();
            return found.isEmpty() ? NONE : found.get(0);
        }

        int kinds(int k, int teller, int sheet, int lane, int i, int n, int what) {
            if (!told(k, teller, sheet, lane) || !in(n, 1, 10) || !in(what, 0, 1)) return BAD;
            if (refused(sheet, lane, i, 2 * n) != 0) return refused(sheet, lane, i, 2 * n);
            long[] pairs = taken(sheet, i, 2 * n);
            for (int j = 0; j < 2 * n; j += 2) {
                if (pairs[j] < 0 || pairs[j] > 2) return NOT;
            }
            List<World> fit = new ArrayList<>();
            int set = 0;
            for (char kind : "ogdtm".toCharArray()) {
                World w = world.with(k, world.ships.get(k).as(kind));
                boolean fits = true;
                for (int j = 0; j < 2 * n; j += 2) {
                    w = w.said(k, teller, (int) pairs[j]);
                    fits &= w.ships.get(k).cell() == pairs[j + 1];
                }
                if (fits) {
                    fit.add(w);
                    set += 1 << " ogdtm".indexOf(kind);
                }
            }
            if (what == 0) return set;
            if (set == 0) return NONE;
            int[] part = new int[3];
            for (int word = 0; word < 3; word++) {
                int[] by = new int[48];
                for (World w : fit) by[w.said(k, teller, word).ships.get(k).cell()]++;
                part[word] = Arrays.stream(by).max().getAsInt();
            }
            int least = Arrays.stream(part).min().getAsInt();
            return part[0] == least ? 0 : part[1] == least ? 1 : 2;
        }

        int fog(int k, int teller, int sheet, int n, int cell, int q, int what) {
            if (!told(k, teller, sheet, 0) || !in(n, 1, 6) || !world.isCell(cell) || !in(q, 0, 10) || !in(what, 0, 1)) {
                return BAD;
            }
            if (refused(sheet, 0, 0, n) != 0) return refused(sheet, 0, 0, n);
            long[] words = taken(sheet, 0, n);
            if (Arrays.stream(words).anyMatch(v -> v < 0 || v > 2)) return NOT;
            BigInteger above = BigInteger.ZERO;
            for (int heard = 0; heard < 1 << n; heard++) {
                World w = world;
                BigInteger weight = BigInteger.ONE;
                for (int j = 0; j < n; j++) {
                    boolean hears = (heard >> j & 1) == 1;
                    w = hears ? w.said(k, teller, (int) words[j]) : w.drifted(k);
                    weight = weight.multiply(BigInteger.valueOf(hears ? 10 - q : q));
                }
                if (w.ships.get(k).cell() == cell) above = above.add(weight);
            }
            BigInteger below = BigInteger.TEN.pow(n);
            BigInteger shared = above.gcd(below);
            return (what == 0 ? above : below).divide(shared).intValueExact();
        }

        int count(int what) {
            if (!in(what, 0, 9)) return BAD;
            if (what == 9) return tape.length();
            if (world == null) return 0;
            int inHarbour = 0;
            for (int k = 0; k < world.ships.size(); k++) {
                inHarbour += world.at(world.ships.get(k).cell()) == 'o' ? 1 << k : 0;
            }
            return new int[] {world.ships.size(), world.sea.get(0).length(), world.sea.size(), world.turn,
                world.sumWorm(), world.sumCredit(), world.harbours(), inHarbour, before.size()}[what];
        }
    }

    // ---- random calls

    private static final Random RANDOM = new Random(20261118);

    /** Mostly from least to most, at times a little beside, seldom far off. */
    private static int some(int least, int most) {
        int dice = RANDOM.nextInt(60);
        if (dice == 0) return least - 1;
        if (dice == 1) return most + 1;
        if (dice == 2 && RANDOM.nextInt(4) == 0) return RANDOM.nextInt();
        return least + RANDOM.nextInt(most - least + 1);
    }

    private static char pick(String signs) {
        return signs.charAt(RANDOM.nextInt(signs.length()));
    }

    private static String randomFleet() {
        return randomFleet(1 + RANDOM.nextInt(6), 1 + RANDOM.nextInt(8), 1 + RANDOM.nextInt(6));
    }

    private static String randomFleet(int rows, int columns, int ships) {
        String cells = pick("ab") == 'a' ? "......#o" : "........#";
        StringBuilder t = new StringBuilder("f");
        for (int r = 0; r < rows; r++) {
            if (r > 0) t.append('/');
            for (int c = 0; c < columns; c++) t.append(pick(cells));
        }
        for (int s = 0; s < ships; s++) {
            int r = RANDOM.nextInt(rows);
            int c = RANDOM.nextInt(columns);
            // Now and then she is left on a rock.
            if (RANDOM.nextInt(60) > 0) t.setCharAt(1 + r * (columns + 1) + c, pick(cells.replace("#", "")));
            t.append(s == 0 ? ';' : ',').append(pick("oogdtmm")).append(r).append(c).append(pick("nesw")).append(pick("001235"));
        }
        t.append(';');
        for (int k = 0; k < 4; k++) t.append(pick("0123456789"));
        return t.toString();
    }

    /** At times a byte is another, too much, or missing. */
    private static String spoilt(String text) {
        if (text.isEmpty()) return text;
        StringBuilder t = new StringBuilder(text);
        int at = RANDOM.nextInt(t.length());
        switch (RANDOM.nextInt(5)) {
            case 0 -> t.setCharAt(at, pick("f.#o/;,ogdtmnesw0123456789 x"));
            case 1 -> t.deleteCharAt(at);
            case 2 -> t.insert(at, pick("f.#o/;,ogdtmnesw0123456789 x"));
            case 3 -> t.setLength(at);
            default -> t.append(pick(".;,0"));
        }
        return t.toString();
    }

    private static int ships(Plain p) {
        return p.world == null ? 0 : p.world.ships.size() - 1;
    }

    private static int cell(Plain p) {
        if (p.world == null || RANDOM.nextInt(12) == 0) return some(0, 47);
        return RANDOM.nextInt(p.world.sea.size()) * 8 + RANDOM.nextInt(p.world.sea.get(0).length());
    }

    /** Words or cells, as the sheets' calls want them: for a cell most often one that a ship can come to. */
    private static long value(Plain p) {
        int dice = RANDOM.nextInt(40);
        if (dice == 0) return RANDOM.nextLong();
        if (dice == 1) return (1L << 32) + RANDOM.nextInt(3);
        if (dice < 28 || p.world == null) return RANDOM.nextInt(3);
        return cell(p);
    }

    private static int lane(Plain p, int sheet) {
        boolean right = sheet >= 0 && sheet < 4 && p.sheets[sheet] != null && RANDOM.nextInt(15) > 0;
        return right ? Plain.lane(p.sheets[sheet]) : some(0, 3);
    }

    private static int wrong = 0;
    private static int compared = 0;
    /** What an object answers behind its 512th call is free: then it is asked nothing more. */
    private static int left = CALLS;

    private static void same(int run, String call, Object[] args, long got, long want) {
        compared++;
        if (got != want && ++wrong < 30) {
            System.out.println("run " + run + ": " + call + Arrays.toString(args) + " answered " + got + ", plainly " + want);
        }
    }

    private static void call(int run, FigureHeads x, Plain p, String name, Object... a) {
        if (left == 0) return;
        left--;
        long got;
        long want;
        int[] v = new int[7];
        for (int k = 0; k < a.length; k++) v[k] = (int) ((Number) a[k]).longValue();
        switch (name) {
            case "feed" -> { got = x.feed(v[0]); want = p.feed(v[0]); }
            case "fleet" -> { got = x.fleet(); want = p.fleet(); }
            case "ship" -> { got = x.ship(v[0], v[1]); want = p.ship(v[0], v[1]); }
            case "as" -> { got = x.as(v[0], v[1]); want = p.as(v[0], v[1]); }
            case "sea" -> { got = x.sea(v[0]); want = p.sea(v[0]); }
            case "credit" -> { got = x.credit(v[0]); want = p.credit(v[0]); }
            case "doubt" -> { got = x.doubt(v[0], v[1]); want = p.doubt(v[0], v[1]); }
            case "say" -> { got = x.say(v[0], v[1], v[2]); want = p.say(v[0], v[1], v[2]); }
            case "storm" -> { got = x.storm(v[0], v[1], v[2], v[3], v[4]); want = p.storm(v[0], v[1], v[2], v[3], v[4]); }
            case "drift" -> { got = x.drift(v[0]); want = p.drift(v[0]); }
            case "scrape" -> { got = x.scrape(v[0]); want = p.scrape(v[0]); }
            case "learn" -> { got = x.learn(v[0]); want = p.learn(v[0]); }
            case "undo" -> { got = x.undo(); want = p.undo(); }
            case "image" -> { got = x.image(v[0]); want = p.image(v[0]); }
            case "restore" -> { got = x.restore(v[0]); want = p.restore(v[0]); }
            case "believed" -> { got = x.believed(v[0]); want = p.believed(v[0]); }
            case "strikes" -> { got = x.strikes(v[0]); want = p.strikes(v[0]); }
            case "course" -> { got = x.course(v[0], v[1], v[2], v[3]); want = p.course(v[0], v[1], v[2], v[3]); }
            case "crew" -> { got = x.crew(v[0]); want = p.crew(v[0]); }
            case "hears" -> { got = x.hears(v[0], v[1]); want = p.hears(v[0], v[1]); }
            case "links" -> { got = x.links(v[0]); want = p.links(v[0]); }
            case "talk" -> { got = x.talk(v[0], v[1], v[2], v[3]); want = p.talk(v[0], v[1], v[2], v[3]); }
            case "decades" -> { got = x.decades(v[0], v[1], v[2]); want = p.decades(v[0], v[1], v[2]); }
            case "sheet" -> { got = x.sheet(v[0], v[1], v[2]); want = p.sheet(v[0], v[1], v[2]); }
            case "drop" -> { got = x.drop(v[0]); want = p.drop(v[0]); }
            case "item" -> {
                got = x.item(v[0], v[1], v[2], (Long) a[3]);
                want = p.item(v[0], v[1], v[2], (Long) a[3]);
            }
            case "copy" -> { got = x.copy(v[0], v[1], v[2], v[3], v[4]); want = p.copy(v[0], v[1], v[2], v[3], v[4]); }
            case "log" -> {
                got = x.log(v[0], v[1], v[2], v[3], v[4], v[5]);
                want = p.log(v[0], v[1], v[2], v[3], v[4], v[5]);
            }
            case "rows" -> {
                got = x.rows(v[0], v[1], v[2], v[3], v[4], v[5], v[6]);
                want = p.rows(v[0], v[1], v[2], v[3], v[4], v[5], v[6]);
            }
            case "kinds" -> {
                got = x.kinds(v[0], v[1], v[2], v[3], v[4], v[5], v[6]);
                want = p.kinds(v[0], v[1], v[2], v[3], v[4], v[5], v[6]);
            }
            case "fog" -> {
                got = x.fog(v[0], v[1], v[2], v[3], v[4], v[5], v[6]);
                want = p.fog(v[0], v[1], v[2], v[3], v[4], v[5], v[6]);
            }
            default -> { got = x.count(v[0]); want = p.count(v[0]); }
        }
        same(run, name, a, got, want);
    }

    private static void randomCall(int run, FigureHeads x, Plain p) {
        int ship = some(0, ships(p));
        int teller = some(0, 3);
        int sheet = some(0, 3);
        int lane = lane(p, sheet);
        int what = some(0, 1);
        switch (RANDOM.nextInt(36)) {
            case 0 -> call(run, x, p, "ship", ship, some(0, 3));
            case 1 -> call(run, x, p, "as", ship, some(0, 5));
            case 2 -> call(run, x, p, "sea", cell(p));
            case 3 -> call(run, x, p, "credit", teller);
            case 4 -> call(run, x, p, "doubt", ship, teller);
            case 5, 6 -> call(run, x, p, "say", ship, teller, some(0, 2));
            case 7, 8 -> call(run, x, p, "storm", ship, teller, some(0, 2), some(0, 3), some(0, 2));
            case 9 -> call(run, x, p, "drift", ship);
            case 10 -> call(run, x, p, "scrape", ship);
            case 11 -> call(run, x, p, "learn", teller);
            case 12 -> call(run, x, p, "undo");
            case 13 -> call(run, x, p, "image", some(0, 1));
            case 14 -> {
                if (RANDOM.nextInt(5) == 0) call(run, x, p, "restore", some(0, 1));
            }
            case 15 -> call(run, x, p, "believed", teller);
            case 16 -> call(run, x, p, "strikes", ship);
            case 17 -> call(run, x, p, "course", ship, teller, cell(p), some(-1, 9));
            case 18 -> call(run, x, p, "crew", some(-1, ships(p)));
            case 19 -> call(run, x, p, "hears", ship, RANDOM.nextBoolean() ? some(0, 4) : some(0, 12));
            case 20 -> call(run, x, p, "links", RANDOM.nextBoolean() ? some(0, 4) : some(0, 12));
            case 21 -> call(run, x, p, "talk", ship, teller, some(0, 3), some(0, 3));
            case 22 -> call(run, x, p, "decades", some(0, 60), some(1, 999999), what);
            case 23 -> call(run, x, p, "sheet", sheet, RANDOM.nextInt(3) == 0 ? 0 : some(0, 3), RANDOM.nextInt(9) == 0 ? some(0, 24) : some(20, 24));
            case 24 -> {
                if (RANDOM.nextInt(6) == 0) call(run, x, p, "drop", sheet);
            }
            case 25, 26 -> call(run, x, p, "item", sheet, lane, some(0, 23), value(p));
            case 27 -> call(run, x, p, "copy", sheet, some(0, 12), RANDOM.nextBoolean() ? sheet : some(0, 3), some(0, 12), some(0, 12));
            case 28 -> {
                fillWords(run, x, p, sheet, lane);
                call(run, x, p, "log", ship, teller, sheet, lane, some(0, 6), some(1, RANDOM.nextInt(5) == 0 ? 24 : 10));
            }
            case 29, 30 -> {
                // A log's cells have rows.
                int n = some(1, 6);
                fillWords(run, x, p, sheet, lane);
                if (RANDOM.nextInt(4) > 0) call(run, x, p, "log", ship, teller, sheet, lane, 0, n);
                call(run, x, p, "rows", ship, teller, sheet, lane, RANDOM.nextInt(8) == 0 ? some(0, 24) : 0, n, what);
            }
            case 31, 32 -> {
                fillPairs(run, x, p, ship, teller, sheet, lane);
                call(run, x, p, "kinds", ship, teller, sheet, lane, RANDOM.nextInt(8) == 0 ? some(0, 24) : 0, some(1, RANDOM.nextBoolean() ? 2 : 10), what);
            }
            case 33, 34 -> {
                if (RANDOM.nextInt(3) > 0) {
                    call(run, x, p, "sheet", sheet, 0, some(4, 6));
                    fillWords(run, x, p, sheet, 0);
                }
                int near = cell(p);
                call(run, x, p, "fog", ship, teller, sheet, some(1, RANDOM.nextBoolean() ? 3 : 6), near, some(0, 10), what);
            }
            default -> call(run, x, p, "count", some(0, 9));
        }
    }

    private static void fillWords(int run, FigureHeads x, Plain p, int sheet, int lane) {
        for (int i = 0; i < 10; i++) {
            call(run, x, p, "item", sheet, lane, i, RANDOM.nextInt(60) == 0 ? value(p) : (long) RANDOM.nextInt(3));
        }
    }

    /** Pairs as some kind would go them. */
    private static void fillPairs(int run, FigureHeads x, Plain p, int ship, int teller, int sheet, int lane) {
        if (!p.told(ship, teller, sheet, lane)) return;
        World w = p.world.with(ship, p.world.ships.get(ship).as(pick("ogdtm")));
        for (int i = 0; i < 20; i += 2) {
            int word = RANDOM.nextInt(3);
            w = w.said(ship, teller, word);
            call(run, x, p, "item", sheet, lane, i, RANDOM.nextInt(60) == 0 ? value(p) : (long) word);
            call(run, x, p, "item", sheet, lane, i + 1, RANDOM.nextInt(30) == 0 ? value(p) : (long) w.ships.get(ship).cell());
        }
    }

    private static void feedText(int run, FigureHeads x, Plain p, String text) {
        for (char c : text.toCharArray()) call(run, x, p, "feed", (int) c);
        call(run, x, p, "fleet");
    }

    /** Fleets whose tellers have some credit: all links, talks and courses. */
    private static void compareForetold(int run) {
        String fleet = randomFleet();
        String tape = fleet.substring(0, fleet.lastIndexOf(';') + 1) + "8" + pick("579") + "94";
        FigureHeads x = null;
        Plain p = new Plain();
        left = 0;
        for (int cell = 0; cell < 48; cell++) {
            // A new object, before the one at hand has been used too often.
            if (left < 20) {
                x = new FigureHeads();
                p = new Plain();
                left = CALLS;
                feedText(run, x, p, tape);
                if (p.world == null) return;
                compareNights(run, x, p);
            }
            int ship = run % p.world.ships.size();
            int teller = run / 7 % 4;
            int words = p.course(ship, teller, cell, -1);
            call(run, x, p, "course", ship, teller, cell, -1);
            for (int k = Math.max(0, words - 12); k <= words; k++) call(run, x, p, "course", ship, teller, cell, k);
        }
    }

    private static void compareNights(int run, FigureHeads x, Plain p) {
        int ship = RANDOM.nextInt(p.world.ships.size());
        int teller = RANDOM.nextInt(4);
        for (int d = 0; d <= 12; d++) call(run, x, p, "links", d);
        for (int n = 0; n <= 3; n++) call(run, x, p, "talk", ship, teller, (teller + 1) % 4, n);
    }

    /** An object's whole use, at times with other fleets between. */
    private static void compareWholeUse(int run) {
        FigureHeads x = new FigureHeads();
        Plain p = new Plain();
        left = CALLS;
        if (run % 3 == 0) feedText(run, x, p, spoilt(randomFleet()));
        feedText(run, x, p, randomFleet());
        while (left > 0) {
            randomCall(run, x, p);
            if (RANDOM.nextInt(150) == 0) feedText(run, x, p, RANDOM.nextBoolean() ? randomFleet() : spoilt(randomFleet()));
        }
    }

    private static void compareSize(int run, int rows, int columns, int ships) {
        FigureHeads x = new FigureHeads();
        Plain p = new Plain();
        left = CALLS;
        feedText(run, x, p, randomFleet(rows, columns, ships));
        while (left > 0) randomCall(run, x, p);
    }

    private static void compareEverySize(int first) {
        int run = first;
        for (int rows = 1; rows <= 6; rows++) {
            for (int columns = 1; columns <= 8; columns++) {
                for (int ships = 1; ships <= 6; ships++) compareSize(run++, rows, columns, ships);
            }
        }
    }

    private static void compareFaults(int run) {
        left = CALLS;
        feedText(run, new FigureHeads(), new Plain(), spoilt(RANDOM.nextBoolean() ? randomFleet() : spoilt(randomFleet())));
    }

    public static void main(String[] args) {
        for (int run = 0; run < RUNS; run++) compareWholeUse(run);
        for (int run = RUNS; run < RUNS + 6000; run++) compareFaults(run);
        for (int run = RUNS + 6000; run < RUNS + 6100; run++) compareForetold(run);
        compareEverySize(RUNS + 6100);
        for (int run = RUNS + 6400; run < RUNS + 6440; run++) compareSize(run, 6, 8, 6);
        System.out.println(compared + " answers compared, " + wrong + " unlike");
        if (wrong != 0) {
            System.exit(1);
        }
    }
}
