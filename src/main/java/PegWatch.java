import java.util.Arrays;

/**
 * A traverse board kept by pegs, and where the ship may be by it: headings, watches, a chart, a log
 * of watches and signs, and what can be told from them.
 *
 * <p>Words in capitals (POINT, WATCH, PATCH, ..) are those of the document's Terms.
 */
public final class PegWatch {
    public static final int NONE = -1, UNKNOWN = -101, OUTSIDE = -102, STATE = -103, FULL = -104;

    private static final int GO_UNKNOWN = -100000;
    private static final int GO_OUTSIDE = -100001;
    private static final int WAY_UNKNOWN = -10000001;
    private static final int WAY_OUTSIDE = -10000002;
    private static final int NO_NAME = -1000;
    private static final int MOST_DONE = 20;
    private static final int MOST_MISS = 20000;
    private static final int MOST_STREAM = 20000;
    private static final int MOST_START = 20;
    private static final int ROW_FACTS = 5;

    private final Words words;
    private final Board board;
    private final Chart chart;
    private final Log log;
    private final Reckoning reckoning;
    private final Voyage voyage;
    private int landfallsDone;
    private int coursesDone;
    private int blamesDone;

    public PegWatch() {
        words = new Words();
        board = new Board();
        chart = new Chart();
        log = new Log();
        reckoning = new Reckoning(chart, board, log);
        voyage = new Voyage(chart);
        landfallsDone = 0;
        coursesDone = 0;
        blamesDone = 0;
    }

    // ---- headings

    public int name(int p) {
        return Compass.isPoint(p) ? Compass.NAMES[p] : NONE;
    }

    public int read(int name) {
        if (name < 1 || Compass.hasFigureZero(name)) {
            return OUTSIDE;
        }
        int point = Compass.pointNamed(name);
        return point != NONE ? point : NO_NAME - Compass.lettersThatBegin(name);
    }

    public int turns(int p, int q) {
        if (!Compass.isPoint(p) || !Compass.isPoint(q)) {
            return UNKNOWN;
        }
        return Compass.turnsBetween(p, q);
    }

    public int go(int p, int side) {
        if (!Compass.isPoint(p)) {
            return GO_UNKNOWN;
        }
        if (!isWithin(side, 0, 1)) {
            return GO_OUTSIDE;
        }
        return side == 0 ? Compass.eastOf(p) : Compass.northOf(p);
    }

    public int word(int v) {
        if (!isWithin(v, 0, 999)) {
            return OUTSIDE;
        }
        return words.append(v) ? words.length : FULL;
    }

    public int hush() {
        int were = words.length;
        words.length = 0;
        return were;
    }

    public int fault() {
        return words.firstFault();
    }

    public int told() {
        return words.firstFault() == NONE ? words.meaning() : STATE;
    }

    // ---- the board

    public int watch() {
        if (board.size >= Board.MOST) {
            return FULL;
        }
        board.size++;
        return board.size - 1;
    }

    public int peg(int w, int k, int p) {
        if (!board.isWatch(w) || !isWithin(k, 0, Watch.PEGS - 1)) {
            return UNKNOWN;
        }
        if (p != NONE && !Compass.isPoint(p)) {
            return OUTSIDE;
        }
        return board.watches[w].putPeg(k, p);
    }

    public int knots(int w, int k, int v) {
        if (!board.isWatch(w) || !isWithin(k, 0, Watch.KNOTS - 1)) {
            return UNKNOWN;
        }
        if (!isWithin(v, 0, Watch.MOST_KNOTS)) {
            return OUTSIDE;
        }
        return board.watches[w].putKnots(k, v);
    }

    public int set(int w, int what, int v) {
        if (!board.isWatch(w) || !isWithin(what, 0, 2)) {
            return UNKNOWN;
        }
        if (!isWithin(v, 0, Watch.mostOf(what))) {
            return OUTSIDE;
        }
        return board.watches[w].putTrait(what, v);
    }

    public int leeway(int p, int wind, int sail) {
        if (!Compass.isPoint(p) || !Compass.isPoint(wind)) {
            return UNKNOWN;
        }
        if (!isWithin(sail, 0, Watch.MOST_SAIL)) {
            return OUTSIDE;
        }
        return Compass.pointsFarther(p, wind, sail);
    }

    public int way(int w, int g, int b, int side) {
        if (!board.isWatch(w)) {
            return WAY_UNKNOWN;
        }
        boolean known = isWithin(g, -Watch.MOST_GLASS, Watch.MOST_GLASS)
                && isWithin(b, -Watch.MOST_BENT, Watch.MOST_BENT);
        if (!known || !isWithin(side, 0, 2)) {
            return WAY_OUTSIDE;
        }
        Watch watch = board.watches[w];
        if (side == 2) {
            return watch.spreadOfLost + board.miss;
        }
        return side == 0 ? watch.wayEast(g, b) : watch.wayNorth(g, b);
    }

    public int miss(int v) {
        if (!isWithin(v, 0, MOST_MISS)) {
            return OUTSIDE;
        }
        int was = board.miss;
        board.miss = v;
        return was;
    }

    // ---- the chart

    public int chart(int w, int h) {
        if (!isWithin(w, Chart.LEAST_SIDE, Chart.MOST_SIDE) || !isWithin(h, Chart.LEAST_SIDE, Chart.MOST_SIDE)) {
            return OUTSIDE;
        }
        if (log.size > 0) {
            return STATE;
        }
        chart.drawAnew(w, h);
        log.startFrom(0, 0, 0);
        return w * h;
    }

    public int sea(int x1, int y1, int x2, int y2, int v) {
        if (!chart.isCell(x1, y1) || !chart.isCell(x2, y2)) {
            return UNKNOWN;
        }
        if (!isWithin(v, 0, Chart.MOST_DEPTH) || x1 > x2 || y1 > y2) {
            return OUTSIDE;
        }
        chart.putDepth(x1, y1, x2, y2, v);
        return (x2 - x1 + 1) * (y2 - y1 + 1);
    }

    public int weed(int x1, int y1, int x2, int y2, boolean is) {
        if (!chart.isCell(x1, y1) || !chart.isCell(x2, y2)) {
            return UNKNOWN;
        }
        if (x1 > x2 || y1 > y2) {
            return OUTSIDE;
        }
        chart.weedy.put(x1, y1, x2, y2, is);
        return (x2 - x1 + 1) * (y2 - y1 + 1);
    }

    public int about(int x, int y, int what) {
        if (!chart.isCell(x, y)) {
            return UNKNOWN;
        }
        if (!isWithin(what, 0, 2)) {
            return OUTSIDE;
        }
        if (what == 0) {
            return chart.depthAt(x, y);
        }
        return what == 1 ? asNumber(chart.weedy.holds(x, y)) : chart.leastNear(x, y);
    }

    public int stream(int e1, int e2, int n1, int n2) {
        if (!isStream(e1, e2) || !isStream(n1, n2)) {
            return OUTSIDE;
        }
        chart.streamBecomes(e1, e2, n1, n2);
        return 1;
    }

    // ---- the log

    public int start(int x, int y, int r) {
        if (!chart.isCell(x, y)) {
            return UNKNOWN;
        }
        if (!isWithin(r, 0, MOST_START)) {
            return OUTSIDE;
        }
        log.startFrom(x, y, r);
        return reckoning.startCells();
    }

    public int run(int w) {
        if (!board.isWatch(w)) {
            return UNKNOWN;
        }
        if (log.holdsWatch(w)) {
            return STATE;
        }
        return log.append(w, NONE, 0, 0) ? log.size : FULL;
    }

    public int sign(int sort, int a, int b) {
        if (!Row.isSign(sort, a, b)) {
            return OUTSIDE;
        }
        int first = Row.needsFirst(sort) ? a : 0;
        int second = Row.needsSecond(sort) ? b : 0;
        return log.append(NONE, sort, first, second) ? log.size : FULL;
    }

    public int count(int row, boolean is) {
        if (!log.isRow(row)) {
            return UNKNOWN;
        }
        int was = asNumber(log.rows[row].counts);
        log.rows[row].counts = is;
        return was;
    }

    public int strike() {
        if (log.size == 0) {
            return STATE;
        }
        log.size--;
        return log.size;
    }

    public int row(int row, int what) {
        if (!log.isRow(row)) {
            return UNKNOWN;
        }
        return isWithin(what, 0, ROW_FACTS - 1) ? log.rows[row].fact(what) : OUTSIDE;
    }

    public int patch(int t) {
        if (!log.isBehind(t)) {
            return UNKNOWN;
        }
        reckoning.lookAhead();
        return reckoning.ahead[t].size();
    }

    public int has(int t, int x, int y) {
        if (!log.isBehind(t) || !chart.isCell(x, y)) {
            return UNKNOWN;
        }
        reckoning.lookAhead();
        return asNumber(reckoning.ahead[t].holds(x, y));
    }

    public int here(int t) {
        if (!log.isBehind(t)) {
            return UNKNOWN;
        }
        return reckoning.seenFromEnd(t).size();
    }

    public int was(int t, int x, int y) {
        if (!log.isBehind(t) || !chart.isCell(x, y)) {
            return UNKNOWN;
        }
        return asNumber(reckoning.seenFromEnd(t).holds(x, y));
    }

    // ---- what is wrong

    public int blamed() {
        if (!mayBlame()) {
            return STATE;
        }
        blamesDone++;
        reckoning.findBlamed();
        return reckoning.foundSize;
    }

    public int blame(int i) {
        if (!mayBlame()) {
            return STATE;
        }
        blamesDone++;
        reckoning.findBlamed();
        return reckoning.foundAt(i);
    }

    // ---- landfall

    public int fits(int x, int y) {
        if (!chart.isCell(x, y)) {
            return UNKNOWN;
        }
        if (landfallsDone >= MOST_DONE) {
            return STATE;
        }
        landfallsDone++;
        reckoning.findFits(x, y);
        return reckoning.foundSize;
    }

    public int fit(int x, int y, int i) {
        if (!chart.isCell(x, y)) {
            return UNKNOWN;
        }
        if (landfallsDone >= MOST_DONE) {
            return STATE;
        }
        landfallsDone++;
        reckoning.findFits(x, y);
        return reckoning.foundAt(i);
    }

    // ---- courses

    public int sights(int x, int y, int p, int v, int t, int d, int r) {
        if (!chart.isCell(x, y)) {
            return UNKNOWN;
        }
        if (!Compass.isPoint(p) || !Voyage.isVoyage(v, t, d, r)) {
            return OUTSIDE;
        }
        if (!reckoning.lookAhead().holds(x, y)) {
            return STATE;
        }
        voyage.fitOut(v, d, r);
        return voyage.sightedFromCell(x, y, p, t);
    }

    public int sure(int p, int v, int t, int d, int r) {
        if (!Compass.isPoint(p) || !Voyage.isVoyage(v, t, d, r)) {
            return OUTSIDE;
        }
        Patch from = reckoning.lookAhead();
        if (from.isEmpty()) {
            return STATE;
        }
        voyage.fitOut(v, d, r);
        return voyage.sightedFromAll(from, p, t);
    }

    public int course(int v, int t, int d, int r) {
        if (!Voyage.isVoyage(v, t, d, r)) {
            return OUTSIDE;
        }
        Patch from = reckoning.lookAhead();
        if (from.isEmpty() || coursesDone >= MOST_DONE) {
            return STATE;
        }
        coursesDone++;
        voyage.fitOut(v, d, r);
        return voyage.soonestPoint(from, t);
    }

    // ---- what is told

    public int many(int what) {
        switch (what) {
            case 0:
                return board.size;
            case 1:
                return log.size;
            case 2:
                return chart.land.size();
            case 3:
                return words.length;
            case 4:
                return landfallsDone;
            case 5:
                return coursesDone;
            case 6:
                return chart.width;
            case 7:
                return chart.height;
            case 8:
                return board.miss;
            case 9:
                return blamesDone;
            default:
                return OUTSIDE;
        }
    }

    public long digest() {
        long h = words.foldInto(199L);
        h = board.foldWatchesInto(h);
        h = chart.foldInto(h);
        h = fold(h, board.miss);
        h = log.foldInto(h);
        h = fold(h, reckoning.lookAhead().size());
        h = fold(h, landfallsDone);
        h = fold(h, coursesDone);
        return fold(h, blamesDone);
    }

    // ---- what the calls share

    private static boolean isWithin(int v, int least, int most) {
        return v >= least && v <= most;
    }

    private static int asNumber(boolean is) {
        return is ? 1 : 0;
    }

    private static long fold(long h, int number) {
        return 31L * h + number;
    }

    private static boolean isStream(int from, int to) {
        return from >= -MOST_STREAM && to <= MOST_STREAM && from <= to;
    }

    private boolean mayBlame() {
        return blamesDone < MOST_DONE && reckoning.lookAhead().isEmpty();
    }

    /** The 32 POINTS: their NAMES, how far they lie apart, and what a step along them makes. */
    private static final class Compass {
        static final int POINTS = 32;
        private static final int FIGURES = 6;
        private static final int QUARTER = 8;

        static final int[] NAMES = {
            1, 68, 44, 319, 8, 320, 80, 103, 2, 105, 92, 752, 20, 753, 128, 140,
            3, 142, 130, 825, 22, 826, 166, 177, 4, 175, 154, 394, 10, 391, 46, 70};

        private static final int[] LENGTHS = {1000, 981, 924, 831, 707, 556, 383, 195, 0};

        static boolean isPoint(int p) {
            return p >= 0 && p < POINTS;
        }

        static int turned(int p, int right) {
            return (p + right) & (POINTS - 1);
        }

        static int turnsBetween(int p, int q) {
            return (q - p) & (POINTS - 1);
        }

        static int angle(int p, int q) {
            int turns = turnsBetween(p, q);
            return Math.min(turns, POINTS - turns);
        }

        static int northOf(int p) {
            int fromNorth = angle(p, 0);
            int fromEither = Math.min(fromNorth, POINTS / 2 - fromNorth);
            return fromNorth > QUARTER ? -LENGTHS[fromEither] : LENGTHS[fromEither];
        }

        static int eastOf(int p) {
            return northOf(turned(p, -QUARTER));
        }

        static int pointsFarther(int heading, int wind, int sail) {
            if (sail == 0) {
                return 0;
            }
            int angle = angle(heading, wind);
            if (angle < 6) {
                return NONE;
            }
            if (angle < 8) {
                return 3 - sail;
            }
            return angle < 12 ? 2 - sail : 0;
        }

        static int pointNamed(int name) {
            for (int p = 0; p < POINTS; p++) {
                if (NAMES[p] == name) {
                    return p;
                }
            }
            return NONE;
        }

        static boolean hasFigureZero(int name) {
            for (int rest = name; rest > 0; rest /= FIGURES) {
                if (rest % FIGURES == 0) {
                    return true;
                }
            }
            return false;
        }

        /** The fronts of a beginning are beginnings too, so that counting them tells the longest. */
        static int lettersThatBegin(int name) {
            int letters = 0;
            for (int front = name; front > 0; front /= FIGURES) {
                if (isBeginning(front)) {
                    letters++;
                }
            }
            return letters;
        }

        private static boolean isBeginning(int letters) {
            for (int p = 0; p < POINTS; p++) {
                for (int front = NAMES[p]; front > 0; front /= FIGURES) {
                    if (front == letters) {
                        return true;
                    }
                }
            }
            return false;
        }
    }

    /** PILOTS' WORDS. */
    private static final class Words {
        private static final int MOST = 24;
        private static final int RIGHT = 100;
        private static final int LEFT = 200;
        private static final int MOST_TURN = 16;
        private static final int OPPOSITE = 300;
        private static final int HALFWAY = 301;

        private final int[] numbers;
        private final int[] meanings;
        private int length;

        Words() {
            numbers = new int[MOST];
            meanings = new int[MOST];
            length = 0;
        }

        boolean append(int number) {
            if (length >= MOST) {
                return false;
            }
            numbers[length] = number;
            length++;
            return true;
        }

        int firstFault() {
            int due = 1;
            for (int i = 0; i < length; i++) {
                int number = numbers[i];
                if (due == 0 || !isWord(number)) {
                    return i;
                }
                if (Compass.isPoint(number)) {
                    due--;
                } else if (number == HALFWAY) {
                    due++;
                }
            }
            return due == 0 ? NONE : length;
        }

        /** Read from the back, what a word speaks of is known by the time the word comes. */
        int meaning() {
            int known = 0;
            for (int i = length - 1; i >= 0; i--) {
                int number = numbers[i];
                if (Compass.isPoint(number)) {
                    meanings[known] = number;
                    known++;
                } else if (number == HALFWAY && known >= 2) {
                    known--;
                    meanings[known - 1] = halfway(meanings[known], meanings[known - 1]);
                } else if (known >= 1) {
                    meanings[known - 1] = Compass.turned(meanings[known - 1], turnOf(number));
                }
            }
            return meanings[0];
        }

        long foldInto(long digest) {
            long h = digest;
            for (int i = 0; i < length; i++) {
                h = fold(h, numbers[i]);
            }
            return h;
        }

        private static boolean isWord(int number) {
            return Compass.isPoint(number) || number == HALFWAY || turnOf(number) != 0;
        }

        /** By how many POINTS to the right a word turns what follows; 0: it is no word of turning. */
        private static int turnOf(int number) {
            if (isWithin(number, RIGHT + 1, RIGHT + MOST_TURN)) {
                return number - RIGHT;
            }
            if (isWithin(number, LEFT + 1, LEFT + MOST_TURN)) {
                return LEFT - number;
            }
            return number == OPPOSITE ? Compass.POINTS / 2 : 0;
        }

        private static int halfway(int from, int to) {
            return Compass.turned(from, Compass.turnsBetween(from, to) / 2);
        }
    }

    /** One WATCH of THE BOARD; its PARTS by each BENT are kept summed up, as fits() asks for them often. */
    private static final class Watch {
        static final int PEGS = 8;
        static final int KNOTS = 4;
        static final int MOST_KNOTS = 12;
        static final int HELMSMEN = 6;
        static final int MOST_SAIL = 2;
        static final int MOST_GLASS = 9;
        static final int MOST_BENT = 2;
        private static final int BENTS = 2 * MOST_BENT + 1;
        private static final int PEGS_A_KNOT = PEGS / KNOTS;

        private final int[] pegs;
        private final int[] knots;
        private final int[] eastParts;
        private final int[] northParts;
        private int spreadOfLost;
        private int spreadIfAllLost;
        private int helmsman;
        private int wind;
        private int sail;

        Watch() {
            pegs = new int[PEGS];
            Arrays.fill(pegs, NONE);
            knots = new int[KNOTS];
            eastParts = new int[BENTS];
            northParts = new int[BENTS];
            spreadOfLost = 0;
            spreadIfAllLost = 0;
            helmsman = 0;
            wind = 0;
            sail = 0;
        }

        static int mostOf(int trait) {
            if (trait == 0) {
                return HELMSMEN - 1;
            }
            return trait == 1 ? Compass.POINTS - 1 : MOST_SAIL;
        }

        int putPeg(int k, int point) {
            int was = pegs[k];
            pegs[k] = point;
            sumUp();
            return was;
        }

        int putKnots(int k, int v) {
            int was = knots[k];
            knots[k] = v;
            sumUp();
            return was;
        }

        int putTrait(int trait, int v) {
            int was;
            if (trait == 0) {
                was = helmsman;
                helmsman = v;
            } else if (trait == 1) {
                was = wind;
                wind = v;
            } else {
                was = sail;
                sail = v;
            }
            sumUp();
            return was;
        }

        int wayEast(int glass, int bent) {
            return byGlass(eastParts[bent + MOST_BENT], glass);
        }

        int wayNorth(int glass, int bent) {
            return byGlass(northParts[bent + MOST_BENT], glass);
        }

        long foldInto(long digest) {
            long h = digest;
            for (int k = 0; k < PEGS; k++) {
                h = fold(h, pegs[k]);
            }
            for (int k = 0; k < KNOTS; k++) {
                h = fold(h, knots[k]);
            }
            return fold(fold(fold(h, helmsman), wind), sail);
        }

        private int knotsOfPeg(int k) {
            return knots[k / PEGS_A_KNOT];
        }

        private static int byGlass(int parts, int glass) {
            return Math.floorDiv(parts * (100 + glass), 100);
        }

        private void sumUp() {
            sumSpreads();
            for (int b = -MOST_BENT; b <= MOST_BENT; b++) {
                sumParts(b);
            }
        }

        private void sumSpreads() {
            int lost = 0;
            int all = 0;
            for (int k = 0; k < PEGS; k++) {
                all += knotsOfPeg(k);
                lost += pegs[k] == NONE ? knotsOfPeg(k) : 0;
            }
            spreadOfLost = lost * 1000;
            spreadIfAllLost = all * 1000;
        }

        private void sumParts(int bent) {
            int east = 0;
            int north = 0;
            for (int k = 0; k < PEGS; k++) {
                int made = madeGood(pegs[k], bent);
                if (made != NONE) {
                    east += knotsOfPeg(k) * Compass.eastOf(made);
                    north += knotsOfPeg(k) * Compass.northOf(made);
                }
            }
            eastParts[bent + MOST_BENT] = east;
            northParts[bent + MOST_BENT] = north;
        }

        /** The POINT along which a PEG takes her; NONE: the PEG is LOST, or nothing is made. */
        private int madeGood(int point, int bent) {
            if (point == NONE) {
                return NONE;
            }
            int heading = Compass.turned(point, bent);
            int farther = Compass.pointsFarther(heading, wind, sail);
            if (farther == NONE) {
                return NONE;
            }
            boolean right = Compass.turnsBetween(wind, heading) < Compass.POINTS / 2;
            return Compass.turned(heading, right ? farther : -farther);
        }
    }

    /** THE BOARD: its WATCHES, and MISS. */
    private static final class Board {
        static final int MOST = 24;

        private final Watch[] watches;
        private int size;
        private int miss;

        Board() {
            watches = new Watch[MOST];
            for (int w = 0; w < MOST; w++) {
                watches[w] = new Watch();
            }
            size = 0;
            miss = 2000;
        }

        boolean isWatch(int w) {
            return w >= 0 && w < size;
        }

        long foldWatchesInto(long digest) {
            long h = digest;
            for (int w = 0; w < size; w++) {
                h = watches[w].foldInto(h);
            }
            return h;
        }
    }

    /** From how many to how many CELLS a step goes, to the east and to the north. */
    private static final class Reach {
        private int west;
        private int east;
        private int south;
        private int north;

        Reach() {
            west = 0;
            east = 0;
            south = 0;
            north = 0;
        }

        /** Whether that is another one than it was. */
        boolean become(int fromEast, int toEast, int fromNorth, int toNorth) {
            boolean same = west == fromEast && east == toEast && south == fromNorth && north == toNorth;
            west = fromEast;
            east = toEast;
            south = fromNorth;
            north = toNorth;
            return !same;
        }

        static int cellsDown(int parts) {
            return Math.floorDiv(parts, Chart.CELL);
        }

        static int cellsUp(int parts) {
            return -Math.floorDiv(-parts, Chart.CELL);
        }
    }

    /** A set of CELLS: bit x of bits[y]. */
    private static final class Patch {
        private final int[] bits;

        Patch() {
            bits = new int[Chart.MOST_SIDE];
        }

        void clear() {
            Arrays.fill(bits, 0);
        }

        void copy(Patch other) {
            System.arraycopy(other.bits, 0, bits, 0, Chart.MOST_SIDE);
        }

        int size() {
            int cells = 0;
            for (int y = 0; y < Chart.MOST_SIDE; y++) {
                cells += Integer.bitCount(bits[y]);
            }
            return cells;
        }

        boolean isEmpty() {
            for (int y = 0; y < Chart.MOST_SIDE; y++) {
                if (bits[y] != 0) {
                    return false;
                }
            }
            return true;
        }

        boolean holds(int x, int y) {
            return isWithin(y, 0, Chart.MOST_SIDE - 1) && isWithin(x, 0, Chart.MOST_SIDE - 1)
                    && (bits[y] >> x & 1) == 1;
        }

        boolean meets(Patch other) {
            for (int y = 0; y < Chart.MOST_SIDE; y++) {
                if ((bits[y] & other.bits[y]) != 0) {
                    return true;
                }
            }
            return false;
        }

        void cutTo(Patch other) {
            for (int y = 0; y < Chart.MOST_SIDE; y++) {
                bits[y] &= other.bits[y];
            }
        }

        /** Becomes the CELLS of another PATCH that it did not have. */
        void turnOver(Patch other) {
            for (int y = 0; y < Chart.MOST_SIDE; y++) {
                bits[y] = other.bits[y] & ~bits[y];
            }
        }

        /** The CELLS from (x1, y1) to (x2, y2), so far as there are such, come in or go. */
        void put(int x1, int y1, int x2, int y2, boolean is) {
            int first = Math.max(x1, 0);
            int last = Math.min(x2, Chart.MOST_SIDE - 1);
            if (first > last) {
                return;
            }
            int mask = firstBits(last + 1) & ~firstBits(first);
            int highest = Math.min(y2, Chart.MOST_SIDE - 1);
            for (int y = Math.max(y1, 0); y <= highest; y++) {
                bits[y] = is ? bits[y] | mask : bits[y] & ~mask;
            }
        }

        /** Becomes all CELLS of a chart that lie from west to east, from south to north of some CELL of another. */
        void becomeReached(Patch from, int west, int east, int south, int north, Chart chart) {
            Arrays.fill(bits, 0);
            int first = Math.max(west, 1 - chart.width);
            int last = Math.min(east, chart.width - 1);
            if (first > last) {
                return;
            }
            for (int y = 0; y < chart.height; y++) {
                if (from.bits[y] != 0) {
                    int reached = smear(from.bits[y], first, last) & firstBits(chart.width);
                    int lowest = Math.max(y + south, 0);
                    int highest = Math.min(y + north, chart.height - 1);
                    for (int k = lowest; k <= highest; k++) {
                        bits[k] |= reached;
                    }
                }
            }
        }

        /** The bits x for which (x and i, y) is in the PATCH. */
        int seenFrom(int i, int y) {
            if (!isWithin(y, 0, Chart.MOST_SIDE - 1) || !isWithin(i, 1 - Chart.MOST_SIDE, Chart.MOST_SIDE - 1)) {
                return 0;
            }
            return i >= 0 ? bits[y] >> i : bits[y] << -i & firstBits(Chart.MOST_SIDE);
        }

        private static int firstBits(int bits) {
            return (1 << bits) - 1;
        }

        /** Each bit, moved by every number from west to east; both are less than a chart's side. */
        private static int smear(int row, int west, int east) {
            int places = east - west + 1;
            long all = row;
            for (int have = 1; have < places; have += have) {
                all |= all << (have <= places - have ? have : places - have);
            }
            return (int) (west < 0 ? all >> -west : all << west);
        }
    }

    /** THE CHART, with THE STREAM. */
    private static final class Chart {
        static final int LEAST_SIDE = 4;
        static final int MOST_SIDE = 20;
        static final int MOST_DEPTH = 99;
        static final int MOST_NEAR = 8;
        static final int CELL = 8000;
        private static final int FIRST_SIDE = 8;
        private static final int FIRST_DEPTH = 50;

        private final int[] depths;
        private final Patch open;
        private final Patch land;
        private final Patch weedy;
        private int width;
        private int height;
        private int fromEast;
        private int toEast;
        private int fromNorth;
        private int toNorth;

        Chart() {
            depths = new int[MOST_SIDE * MOST_SIDE];
            open = new Patch();
            land = new Patch();
            weedy = new Patch();
            streamBecomes(0, 0, 0, 0);
            drawAnew(FIRST_SIDE, FIRST_SIDE);
        }

        void drawAnew(int w, int h) {
            width = w;
            height = h;
            Arrays.fill(depths, FIRST_DEPTH);
            weedy.clear();
            land.clear();
            open.clear();
            open.put(0, 0, w - 1, h - 1, true);
        }

        void streamBecomes(int e1, int e2, int n1, int n2) {
            fromEast = e1;
            toEast = e2;
            fromNorth = n1;
            toNorth = n2;
        }

        boolean isCell(int x, int y) {
            return x >= 0 && x < width && y >= 0 && y < height;
        }

        int depthAt(int x, int y) {
            return isCell(x, y) ? depths[y * MOST_SIDE + x] : FIRST_DEPTH;
        }

        void putDepth(int x1, int y1, int x2, int y2, int depth) {
            for (int y = y1; y <= y2; y++) {
                for (int x = x1; x <= x2; x++) {
                    depths[y * MOST_SIDE + x] = depth;
                }
            }
            land.put(x1, y1, x2, y2, depth == 0);
            open.put(x1, y1, x2, y2, depth != 0);
        }

        int leastNear(int x, int y) {
            for (int r = 0; r <= MOST_NEAR; r++) {
                for (int k = y - r; k <= y + r; k++) {
                    for (int i = x - r; i <= x + r; i++) {
                        if (land.holds(i, k)) {
                            return r;
                        }
                    }
                }
            }
            return NONE;
        }

        void findNear(int r, Patch into) {
            into.becomeReached(land, -r, r, -r, r, this);
        }

        /** The CELLS, land or not, with a DEPTH from least to most. */
        void findDepths(int least, int most, Patch into) {
            into.clear();
            for (int y = 0; y < height; y++) {
                for (int x = 0; x < width; x++) {
                    if (isWithin(depths[y * MOST_SIDE + x], least, most)) {
                        into.put(x, y, x, y, true);
                    }
                }
            }
        }

        long foldInto(long digest) {
            long h = fold(fold(digest, width), height);
            for (int y = 0; y < height; y++) {
                for (int x = 0; x < width; x++) {
                    h = fold(h, depths[y * MOST_SIDE + x]);
                    h = fold(h, asNumber(weedy.holds(x, y)));
                }
            }
            return fold(fold(fold(fold(h, fromEast), toEast), fromNorth), toNorth);
        }
    }

    /** A ROW of THE LOG, and what it does to a PATCH once it has been made ready. */
    private static final class Row {
        private static final int SOUNDING = 0;
        private static final int NO_BOTTOM = 1;
        private static final int BIRDS = 2;
        private static final int WEED = 3;
        private static final int HEIGHT = 4;
        private static final int NO_LAND = 5;
        private static final int MOST_NUMBER = 99;

        private final Reach counted;
        private final Reach uncounted;
        private final Patch staying;
        private int watch;
        private int sort;
        private int a;
        private int b;
        private boolean counts;

        Row() {
            counted = new Reach();
            uncounted = new Reach();
            staying = new Patch();
            become(NONE, NONE, 0, 0);
        }

        static boolean needsFirst(int sort) {
            return sort != WEED;
        }

        static boolean needsSecond(int sort) {
            return sort == SOUNDING || sort == HEIGHT;
        }

        static boolean isSign(int sort, int a, int b) {
            if (!isWithin(sort, SOUNDING, NO_LAND)) {
                return false;
            }
            int most = sort == BIRDS || sort == NO_LAND ? Chart.MOST_NEAR : MOST_NUMBER;
            if (needsFirst(sort) && !isWithin(a, 0, most)) {
                return false;
            }
            return !needsSecond(sort) || isWithin(b, a, most);
        }

        void become(int newWatch, int newSort, int newA, int newB) {
            watch = newWatch;
            sort = newSort;
            a = newA;
            b = newB;
            counts = true;
        }

        boolean isWatch() {
            return watch != NONE;
        }

        int fact(int what) {
            switch (what) {
                case 0:
                    return watch;
                case 1:
                    return sort;
                case 2:
                    return a;
                case 3:
                    return b;
                default:
                    return asNumber(counts);
            }
        }

        /** Finds the CELLS that a SIGN lets stay. */
        void findStaying(Chart chart) {
            switch (sort) {
                case SOUNDING:
                    chart.findDepths(a, b, staying);
                    break;
                case NO_BOTTOM:
                    chart.findDepths(a + 1, Chart.MOST_DEPTH, staying);
                    break;
                case BIRDS:
                    chart.findNear(a, staying);
                    break;
                case WEED:
                    staying.copy(chart.weedy);
                    break;
                case HEIGHT:
                    staying.clear();
                    staying.put(0, a, chart.width - 1, b, true);
                    break;
                default:
                    chart.findNear(a, staying);
                    staying.turnOver(chart.open);
                    break;
            }
        }

        /** Where she may be behind this ROW, from where she may be ahead of it. */
        void takeOn(boolean counting, Patch from, Patch into, Chart chart) {
            if (isWatch()) {
                Reach reach = counting ? counted : uncounted;
                into.becomeReached(from, reach.west, reach.east, reach.south, reach.north, chart);
                into.cutTo(chart.open);
            } else {
                cut(counting, from, into);
            }
        }

        /** From where this ROW leads to some CELL of a PATCH. */
        void takeBack(Patch to, Patch into, Chart chart) {
            if (isWatch()) {
                Reach reach = counts ? counted : uncounted;
                into.becomeReached(to, -reach.east, -reach.west, -reach.north, -reach.south, chart);
                into.cutTo(chart.open);
            } else {
                cut(counts, to, into);
            }
        }

        private void cut(boolean counting, Patch from, Patch into) {
            into.copy(from);
            if (counting) {
                into.cutTo(staying);
            }
        }
    }

    /** THE LOG, with what tells THE START. */
    private static final class Log {
        static final int MOST = 40;

        private final Row[] rows;
        private int size;
        private int startX;
        private int startY;
        private int startR;

        Log() {
            rows = new Row[MOST];
            for (int i = 0; i < MOST; i++) {
                rows[i] = new Row();
            }
            size = 0;
            startFrom(0, 0, 0);
        }

        void startFrom(int x, int y, int r) {
            startX = x;
            startY = y;
            startR = r;
        }

        boolean isRow(int row) {
            return row >= 0 && row < size;
        }

        boolean isBehind(int t) {
            return t >= 0 && t <= size;
        }

        boolean holdsWatch(int w) {
            for (int i = 0; i < size; i++) {
                if (rows[i].watch == w) {
                    return true;
                }
            }
            return false;
        }

        boolean append(int watch, int sort, int a, int b) {
            if (size >= MOST) {
                return false;
            }
            rows[size].become(watch, sort, a, b);
            size++;
            return true;
        }

        long foldInto(long digest) {
            long h = fold(fold(fold(digest, startX), startY), startR);
            for (int i = 0; i < size; i++) {
                for (int what = 0; what < ROW_FACTS; what++) {
                    h = fold(h, rows[i].fact(what));
                }
            }
            return h;
        }
    }

    /** THE PATCH along THE LOG, and what follows from it. */
    private static final class Reckoning {
        /** There are fewer FITS than there may be pairs of ROWS. */
        private static final int MOST_FOUND = Log.MOST * (Log.MOST - 1) / 2;

        private final Chart chart;
        private final Board board;
        private final Log log;
        private final Patch[] ahead;
        private final Patch[] back;
        private final Patch here;
        private final Patch without;
        private final Patch withoutTwo;
        private final int[] found;
        private int foundSize;

        Reckoning(Chart chart, Board board, Log log) {
            this.chart = chart;
            this.board = board;
            this.log = log;
            ahead = new Patch[Log.MOST + 1];
            back = new Patch[Log.MOST + 1];
            for (int t = 0; t <= Log.MOST; t++) {
                ahead[t] = new Patch();
                back[t] = new Patch();
            }
            here = new Patch();
            without = new Patch();
            withoutTwo = new Patch();
            found = new int[MOST_FOUND];
            foundSize = 0;
        }

        int startCells() {
            findStart();
            return ahead[0].size();
        }

        /** Finds ahead[t], THE PATCH behind ROW t, for all t; answers the last of them. */
        Patch lookAhead() {
            findStart();
            for (int t = 0; t < log.size; t++) {
                makeReady(log.rows[t]);
            }
            takeOnFrom(0);
            return ahead[log.size];
        }

        /** HERE, behind ROW t. */
        Patch seenFromEnd(int t) {
            lookAhead();
            lookBack();
            here.copy(ahead[t]);
            here.cutTo(back[t]);
            return here;
        }

        /** The i-th of what was found last; NONE: there is none. */
        int foundAt(int i) {
            return i >= 0 && i < foundSize ? found[i] : NONE;
        }

        /** Finds what is BLAMED; THE PATCH has been looked at, and is empty. */
        void findBlamed() {
            lookBack();
            foundSize = 0;
            for (int t = 0; t < log.size; t++) {
                if (log.rows[t].counts && leadsOnWithout(t, ahead[t], without)) {
                    add(t);
                }
            }
            boolean pairs = foundSize == 0;
            for (int t = 0; pairs && t < log.size; t++) {
                if (log.rows[t].counts) {
                    findPairsOf(t);
                }
            }
        }

        /** Finds all FITS of a LANDFALL. */
        void findFits(int x, int y) {
            lookAhead();
            foundSize = 0;
            for (int g = -Watch.MOST_GLASS; g <= Watch.MOST_GLASS; g++) {
                for (int m = 0; m < Watch.HELMSMEN; m++) {
                    for (int b = -Watch.MOST_BENT; b <= Watch.MOST_BENT; b++) {
                        if ((b != 0 || m == 0) && lookAheadBy(g, m, b).holds(x, y)) {
                            add(100 * (g + Watch.MOST_GLASS) + 10 * m + b + Watch.MOST_BENT);
                        }
                    }
                }
            }
        }

        private void findStart() {
            Patch first = ahead[0];
            first.clear();
            first.put(log.startX - log.startR, log.startY - log.startR,
                    log.startX + log.startR, log.startY + log.startR, true);
            first.cutTo(chart.open);
        }

        private void makeReady(Row row) {
            if (row.isWatch()) {
                stretchCounted(row, 0, 0);
                stretch(row.uncounted, 0, 0, board.watches[row.watch].spreadIfAllLost);
            } else {
                row.findStaying(chart);
            }
        }

        /** Whether a WATCH, by that GLASS and BENT, reaches elsewhere than it did. */
        private boolean stretchCounted(Row row, int glass, int bent) {
            Watch watch = board.watches[row.watch];
            return stretch(row.counted, watch.wayEast(glass, bent), watch.wayNorth(glass, bent), watch.spreadOfLost);
        }

        private boolean stretch(Reach reach, int east, int north, int lost) {
            int spread = lost + board.miss;
            return reach.become(
                    Reach.cellsDown(east + chart.fromEast - spread),
                    Reach.cellsUp(east + chart.toEast + spread),
                    Reach.cellsDown(north + chart.fromNorth - spread),
                    Reach.cellsUp(north + chart.toNorth + spread));
        }

        /** As lookAhead(), which came before it, by a GLASS and one HELMSMAN's BENT. */
        private Patch lookAheadBy(int glass, int helmsman, int bent) {
            int firstOther = log.size;
            for (int t = log.size - 1; t >= 0; t--) {
                Row row = log.rows[t];
                if (row.isWatch() && row.counts) {
                    boolean bends = board.watches[row.watch].helmsman == helmsman;
                    if (stretchCounted(row, glass, bends ? bent : 0)) {
                        firstOther = t;
                    }
                }
            }
            takeOnFrom(firstOther);
            return ahead[log.size];
        }

        private void takeOnFrom(int first) {
            for (int t = first; t < log.size; t++) {
                log.rows[t].takeOn(log.rows[t].counts, ahead[t], ahead[t + 1], chart);
            }
        }

        /** Finds back[t], the CELLS from which the ROWS behind t lead to any CELL at all, for all t. */
        private void lookBack() {
            back[log.size].copy(chart.open);
            for (int t = log.size - 1; t >= 0; t--) {
                log.rows[t].takeBack(back[t + 1], back[t], chart);
            }
        }

        /** Whether she is anywhere at the end, if ROW t does not COUNT; into is what it makes of from. */
        private boolean leadsOnWithout(int t, Patch from, Patch into) {
            log.rows[t].takeOn(false, from, into, chart);
            return into.meets(back[t + 1]);
        }

        private void findPairsOf(int lesser) {
            log.rows[lesser].takeOn(false, ahead[lesser], without, chart);
            for (int t = lesser + 1; t < log.size; t++) {
                Row row = log.rows[t];
                if (row.counts && leadsOnWithout(t, without, withoutTwo)) {
                    add(100 * (lesser + 1) + t);
                }
                row.takeOn(row.counts, without, withoutTwo, chart);
                without.copy(withoutTwo);
            }
        }

        private void add(int number) {
            if (foundSize < MOST_FOUND) {
                found[foundSize] = number;
                foundSize++;
            }
        }
    }

    /** COURSES with the same KNOTS, D and R. */
    private static final class Voyage {
        private static final int MOST_TIME = 96;
        private static final int ROUND = 48;
        private static final int DAY = 24;

        private final Chart chart;
        private final Patch near;
        private final Patch left;
        private final Reach reach;
        private int knots;
        private int hour;

        Voyage(Chart chart) {
            this.chart = chart;
            near = new Patch();
            left = new Patch();
            reach = new Reach();
            knots = 0;
            hour = 0;
        }

        static boolean isVoyage(int v, int t, int d, int r) {
            return isWithin(v, 1, Watch.MOST_KNOTS) && isWithin(t, 1, MOST_TIME)
                    && isWithin(d, 0, ROUND - 1) && isWithin(r, 0, Chart.MOST_NEAR);
        }

        void fitOut(int v, int d, int r) {
            knots = v;
            hour = d;
            chart.findNear(r, near);
        }

        int sightedFromCell(int x, int y, int point, int last) {
            left.clear();
            left.put(x, y, x, y, true);
            return sightedFromLeft(point, last);
        }

        int sightedFromAll(Patch from, int point, int last) {
            left.copy(from);
            return sightedFromLeft(point, last);
        }

        /** A later POINT must be sooner than the best one so far, so none is sailed for longer. */
        int soonestPoint(Patch from, int last) {
            int best = NONE;
            int limit = last;
            for (int p = 0; p < Compass.POINTS; p++) {
                int t = sightedFromAll(from, p, limit);
                if (t > 0) {
                    best = p;
                    limit = t - 1;
                }
            }
            return best;
        }

        /** When the last of the CELLS left is SIGHTED; 0: not up to then, or one is AGROUND ahead of it. */
        private int sightedFromLeft(int point, int last) {
            for (int t = 1; t <= last; t++) {
                int east = t * knots * Compass.eastOf(point);
                int north = t * knots * Compass.northOf(point);
                reach.become(Reach.cellsDown(east), Reach.cellsUp(east), Reach.cellsDown(north), Reach.cellsUp(north));
                if (isOneAground()) {
                    return 0;
                }
                if ((t - 1 + hour) % ROUND < DAY) {
                    dropSighted();
                    if (left.isEmpty()) {
                        return t;
                    }
                }
            }
            return 0;
        }

        private boolean isOneAground() {
            for (int y = 0; y < chart.height; y++) {
                for (int k = reach.south; left.bits[y] != 0 && k <= reach.north; k++) {
                    for (int i = reach.west; i <= reach.east; i++) {
                        if ((left.bits[y] & chart.land.seenFrom(i, y + k)) != 0) {
                            return true;
                        }
                    }
                }
            }
            return false;
        }

        private void dropSighted() {
            for (int y = 0; y < chart.height; y++) {
                int sighted = left.bits[y];
                for (int k = reach.south; sighted != 0 && k <= reach.north; k++) {
                    for (int i = reach.west; i <= reach.east; i++) {
                        sighted &= near.seenFrom(i, y + k);
                    }
                }
                left.bits[y] &= ~sighted;
            }
        }
    }
}
