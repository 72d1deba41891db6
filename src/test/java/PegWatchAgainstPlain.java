import java.lang.reflect.Method;
import java.util.ArrayList;
import java.util.Arrays;
import java.util.Comparator;
import java.util.List;
import java.util.Map;
import java.util.Random;
import java.util.TreeMap;

/**
 * Long runs of calls, drawn from fixed seeds, on a PegWatch and on Plain below, which does what the
 * document says word by word, cell by cell, without a thought of speed. Every answer must be the same.
 */
public final class PegWatchAgainstPlain {
    private static final int RUNS = 260;
    private static final int CALLS = 511;
    private static int wrong = 0;
    private static final Map<String, TreeMap<Long, Integer>> ANSWERS = new TreeMap<>();

    public static void main(String[] args) throws Exception {
        Method[] methods = facesMethods();
        for (int run = 0; run < RUNS && wrong < 20; run++) {
            oneRun(run, methods);
        }
        checkThatRefusalsCameUp();
        System.out.println(wrong == 0 ? "all answers are as due" : wrong + " answers are not as due");
        if (wrong != 0) {
            System.exit(1);
        }
    }

    private static Method[] facesMethods() {
        List<Method> methods = new ArrayList<>();
        for (Method method : PegWatch.class.getDeclaredMethods()) {
            if (java.lang.reflect.Modifier.isPublic(method.getModifiers())) {
                methods.add(method);
            }
        }
        methods.sort(Comparator.comparing(Method::getName));
        return methods.toArray(new Method[0]);
    }

    private static void oneRun(int run, Method[] methods) throws Exception {
        Random random = new Random(7919L * run + 5);
        Pair pair = new Pair(run);
        Draw draw = new Draw(random, run);
        if (run % 2 == 1) {
            new Passage(random, pair).set();
        }
        while (pair.calls < CALLS && pair.same) {
            Method method = draw.method(methods, pair.plain);
            pair.call(method, draw.arguments(method, pair.plain));
        }
    }

    /** Both, called alike. */
    private static final class Pair {
        private final int run;
        private final PegWatch watch = new PegWatch();
        private final Plain plain = new Plain();
        private final StringBuilder told = new StringBuilder();
        private int calls = 0;
        private boolean same = true;

        Pair(int run) {
            this.run = run;
        }

        void call(String name, int... numbers) throws Exception {
            Class<?>[] types = new Class<?>[numbers.length];
            Arrays.fill(types, int.class);
            Object[] args = new Object[numbers.length];
            for (int i = 0; i < args.length; i++) {
                args[i] = numbers[i];
            }
            call(PegWatch.class.getMethod(name, types), args);
        }

        void call(Method method, Object[] args) throws Exception {
            long got = ((Number) method.invoke(watch, args)).longValue();
            Method plainly = Plain.class.getDeclaredMethod(method.getName(), method.getParameterTypes());
            long want = ((Number) plainly.invoke(plain, args)).longValue();
            calls++;
            ANSWERS.computeIfAbsent(method.getName(), n -> new TreeMap<>()).merge(want, 1, Integer::sum);
            told.append(method.getName()).append(Arrays.toString(args)).append(' ');
            if (got != want && same) {
                wrong++;
                same = false;
                System.out.println("run " + run + " call " + calls + ": " + method.getName()
                        + Arrays.toString(args) + " answered " + got + ", due is " + want);
                System.out.println("  behind " + told);
            }
        }
    }

    /** A voyage that holds together: a coast, a few watches that steer much the same, little spread. */
    private static final class Passage {
        private final Random random;
        private final Pair pair;

        Passage(Random random, Pair pair) {
            this.random = random;
            this.pair = pair;
        }

        void set() throws Exception {
            int w = 8 + random.nextInt(7);
            int h = 8 + random.nextInt(7);
            pair.call("chart", w, h);
            pair.call("sea", w - 1 - random.nextInt(2), 0, w - 1, h - 1, 0);
            pair.call("sea", random.nextInt(w), h - 1, w - 1, h - 1, 0);
            pair.call("sea", 0, 0, w / 2, h / 2, 30 + random.nextInt(40));
            pair.call("miss", random.nextInt(900));
            pair.call("start", random.nextInt(w / 2), random.nextInt(h / 2), random.nextInt(2));
            int watches = 1 + random.nextInt(4);
            int heading = random.nextInt(9);
            for (int i = 0; i < watches; i++) {
                watch(i, heading + random.nextInt(3), 1 + random.nextInt(12 / watches));
            }
            if (random.nextInt(2) == 0) {
                pair.call("sign", 4, random.nextInt(3), h - 1 - random.nextInt(3));
            }
        }

        private void watch(int number, int heading, int knots) throws Exception {
            pair.call("watch");
            for (int k = 0; k < 8; k++) {
                pair.call("peg", number, k, random.nextInt(30) == 0 ? -1 : heading);
            }
            for (int k = 0; k < 4; k++) {
                pair.call("knots", number, k, knots);
            }
            pair.call("set", number, 0, random.nextInt(6));
            pair.call("set", number, 1, random.nextInt(32));
            pair.call("set", number, 2, random.nextInt(3));
            pair.call("run", number);
        }
    }

    /** A refusal that no run draws would not be tested here. */
    private static void checkThatRefusalsCameUp() {
        String[] due = {"turns -101", "word -102", "word -104", "told -103", "watch -104", "peg -101", "peg -102",
            "knots -101", "knots -102", "set -101", "set -102", "leeway -101", "leeway -102", "way -10000001",
            "way -10000002", "miss -102", "chart -102", "chart -103", "sea -101", "sea -102", "weed -101",
            "weed -102", "about -101", "about -102", "stream -102", "start -101", "start -102", "run -101",
            "run -103", "sign -102", "count -101", "strike -103", "row -101", "row -102",
            "patch -101", "has -101", "here -101", "was -101", "blamed -103", "blame -103", "fits -101",
            "fits -103", "fit -101", "fit -103", "sights -101", "sights -102", "sights -103", "sure -102",
            "sure -103", "course -102", "course -103", "many -102", "read -102", "go -100000", "go -100001"};
        for (String one : due) {
            String[] parts = one.split(" ");
            if (wrong == 0 && !ANSWERS.get(parts[0]).containsKey(Long.parseLong(parts[1]))) {
                wrong++;
                System.out.println("no run drew " + one);
            }
        }
    }

    /** Draws calls that are mostly in order, sometimes at an edge, sometimes wrong. */
    private static final class Draw {
        private final Random random;
        private final int mostSide;
        private final int mostRows;
        private final boolean quiet;
        private final boolean passage;

        Draw(Random random, int run) {
            this.random = random;
            mostSide = run % 13 == 0 ? 20 : 4 + random.nextInt(8);
            mostRows = run % 26 == 0 ? 40 : 3 + random.nextInt(9);
            quiet = run % 3 == 0;
            passage = run % 2 == 1;
        }

        Method method(Method[] methods, Plain plain) {
            for (int i = 0; i < 1000; i++) {
                Method method = methods[random.nextInt(methods.length)];
                if (suits(method.getName(), plain)) {
                    return method;
                }
            }
            throw new IllegalStateException();
        }

        private boolean suits(String name, Plain plain) {
            switch (name) {
                case "run":
                case "sign":
                    return mostRows == 40 || (plain.rows.size() < mostRows && oneIn(passage ? 3 : 1)) || oneIn(40);
                case "strike":
                    return oneIn(mostRows == 40 ? 40 : plain.rows.size() > mostRows - 2 ? 2 : 8);
                case "chart":
                    return oneIn(plain.rows.isEmpty() ? 3 : 8);
                case "hush":
                    return oneIn(6);
                case "start":
                case "peg":
                case "knots":
                case "set":
                    return !passage || oneIn(10);
                case "sea":
                case "count":
                case "miss":
                case "stream":
                    return oneIn(passage ? 10 : quiet ? 6 : 2);
                default:
                    return true;
            }
        }

        private boolean oneIn(int many) {
            return random.nextInt(many) == 0;
        }

        Object[] arguments(Method method, Plain plain) {
            Class<?>[] types = method.getParameterTypes();
            Object[] drawn = new Object[types.length];
            for (int i = 0; i < types.length; i++) {
                if (types[i] == boolean.class) {
                    drawn[i] = method.getName().equals("count") ? random.nextInt(3) != 0 : random.nextBoolean();
                } else {
                    drawn[i] = random.nextInt(60) == 0 ? wild() : number(method.getName(), i, plain);
                }
            }
            return inOrder(method.getName(), drawn);
        }

        private int wild() {
            int[] some = {-1, 32, 24, 40, 100, 1000, -20001, 20001, Integer.MIN_VALUE, Integer.MAX_VALUE, 20, 97, 48,
                13, 9, -10, 3, -3};
            return some[random.nextInt(some.length)];
        }

        private Object[] inOrder(String name, Object[] drawn) {
            if (random.nextInt(20) != 0) {
                if (name.equals("sea") || name.equals("weed")) {
                    swapIfAbove(drawn, 0, 2);
                    swapIfAbove(drawn, 1, 3);
                } else if (name.equals("stream")) {
                    swapIfAbove(drawn, 0, 1);
                    swapIfAbove(drawn, 2, 3);
                } else if (name.equals("sign")) {
                    swapIfAbove(drawn, 1, 2);
                }
            }
            return drawn;
        }

        private static void swapIfAbove(Object[] drawn, int i, int k) {
            if ((Integer) drawn[i] > (Integer) drawn[k]) {
                Object kept = drawn[i];
                drawn[i] = drawn[k];
                drawn[k] = kept;
            }
        }

        private int number(String name, int i, Plain plain) {
            int x = random.nextInt(plain.w);
            int y = random.nextInt(plain.h);
            int t = random.nextInt(plain.rows.size() + 1);
            switch (name + i) {
                case "read0":
                    return random.nextInt(3) == 0 ? 1 + random.nextInt(60000)
                            : new int[] {1, 68, 44, 319, 753, 826, 394, 70, 1914, 2560, 7, 5}[random.nextInt(12)];
                case "go1":
                    return random.nextInt(2);
                case "word0":
                    return new int[] {random.nextInt(32), 101 + random.nextInt(16), 201 + random.nextInt(16), 300, 301,
                        301, random.nextInt(32), random.nextInt(32), random.nextInt(1000)}[random.nextInt(9)];
                case "name0":
                case "turns0":
                case "turns1":
                case "go0":
                case "leeway0":
                case "leeway1":
                case "sights2":
                case "sure0":
                    return random.nextInt(32);
                case "leeway2":
                    return random.nextInt(3);
                case "peg0":
                case "knots0":
                case "set0":
                case "way0":
                case "run0":
                    return random.nextInt(Math.max(1, plain.watches.size()));
                case "peg1":
                    return random.nextInt(8);
                case "peg2":
                    return random.nextInt(33) - 1;
                case "knots1":
                    return random.nextInt(4);
                case "knots2":
                    return random.nextInt(quiet ? 4 : 13);
                case "set1":
                    return random.nextInt(3);
                case "set2":
                    return random.nextInt(3) == 0 ? random.nextInt(32) : random.nextInt(6);
                case "way1":
                    return random.nextInt(19) - 9;
                case "way2":
                    return random.nextInt(5) - 2;
                case "way3":
                case "about2":
                    return random.nextInt(3);
                case "miss0":
                    return random.nextInt(quiet ? 3000 : 20001);
                case "chart0":
                case "chart1":
                    return 4 + random.nextInt(mostSide - 3);
                case "sea4":
                    return random.nextInt(5) == 0 ? 0 : random.nextInt(100);
                case "stream0":
                case "stream1":
                case "stream2":
                case "stream3":
                    return quiet ? random.nextInt(4001) - 2000 : random.nextInt(40001) - 20000;
                case "start2":
                    return random.nextInt(random.nextInt(4) == 0 ? 21 : 4);
                case "sign0":
                    return random.nextInt(6);
                case "sign1":
                case "sign2":
                    return random.nextInt(random.nextInt(2) == 0 ? 9 : 100);
                case "count0":
                case "row0":
                    return random.nextInt(Math.max(1, plain.rows.size()));
                case "row1":
                    return random.nextInt(5);
                case "patch0":
                case "has0":
                case "here0":
                case "was0":
                    return t;
                case "blame0":
                    return random.nextInt(4);
                case "fit2":
                    return random.nextInt(475);
                case "sights3":
                case "sure1":
                case "course0":
                    return 1 + random.nextInt(12);
                case "sights4":
                case "sure2":
                case "course1":
                    return 1 + random.nextInt(96);
                case "sights5":
                case "sure3":
                case "course2":
                    return random.nextInt(48);
                case "sights6":
                case "sure4":
                case "course3":
                    return random.nextInt(9);
                case "many0":
                    return random.nextInt(10);
                case "sea0":
                case "sea2":
                case "weed0":
                case "weed2":
                case "about0":
                case "start0":
                case "has1":
                case "was1":
                case "fits0":
                case "fit0":
                case "sights0":
                    return x;
                default:
                    return y;
            }
        }
    }

    /** The document, word by word. */
    static final class Plain {
        static final String[] NAMES = ("N NbE NNE NEbN NE NEbE ENE EbN E EbS ESE SEbE SE SEbS SSE SbE S SbW SSW SWbS SW "
                + "SWbW WSW WbS W WbN WNW NWbW NW NWbN NNW NbW").split(" ");
        static final int[] LONG = {1000, 981, 924, 831, 707, 556, 383, 195, 0};

        List<Integer> words = new ArrayList<>();
        List<int[]> watches = new ArrayList<>(); // 8 pegs, 4 knots, helmsman, wind, sail
        List<int[]> rows = new ArrayList<>(); // watch, sort, a, b, counting
        int miss = 2000;
        int w;
        int h;
        int[][] depth;
        boolean[][] weed;
        int[] stream = {0, 0, 0, 0};
        int[] start;
        int landfalls;
        int courses;
        int blames;

        Plain() {
            draw(8, 8);
        }

        private void draw(int w, int h) {
            this.w = w;
            this.h = h;
            depth = new int[w][h];
            for (int[] column : depth) {
                Arrays.fill(column, 50);
            }
            weed = new boolean[w][h];
            start = new int[] {0, 0, 0};
        }

        private static boolean point(int p) {
            return 0 <= p && p <= 31;
        }

        private boolean cell(int x, int y) {
            return 0 <= x && x < w && 0 <= y && y < h;
        }

        private static String letters(int name) {
            StringBuilder text = new StringBuilder();
            for (int rest = name; rest > 0; rest /= 6) {
                text.insert(0, "0NESWb".charAt(rest % 6));
            }
            return text.toString();
        }

        int name(int p) {
            if (!point(p)) {
                return -1;
            }
            int told = 0;
            for (char letter : NAMES[p].toCharArray()) {
                told = told * 6 + "0NESWb".indexOf(letter);
            }
            return told;
        }

        int read(int name) {
            if (name < 1 || letters(name).contains("0")) {
                return -102;
            }
            String text = letters(name);
            if (Arrays.asList(NAMES).contains(text)) {
                return Arrays.asList(NAMES).indexOf(text);
            }
            int most = 0;
            for (String one : NAMES) {
                int like = 0;
                while (like < one.length() && like < text.length() && one.charAt(like) == text.charAt(like)) {
                    like++;
                }
                most = Math.max(most, like);
            }
            return -1000 - most;
        }

        int turns(int p, int q) {
            return point(p) && point(q) ? (q + 32 - p) % 32 : -101;
        }

        private int angle(int p, int q) {
            return Math.min(turns(p, q), 32 - turns(p, q));
        }

        int go(int p, int side) {
            if (!point(p)) {
                return -100000;
            }
            if (side != 0 && side != 1) {
                return -100001;
            }
            if (side == 1) {
                int north = LONG[Math.min(angle(p, 0), angle(p, 16))];
                return p >= 9 && p <= 23 ? -north : north;
            }
            int east = LONG[Math.min(angle(p, 8), angle(p, 24))];
            return p >= 17 && p <= 31 ? -east : east;
        }

        int word(int v) {
            if (v < 0 || v > 999) {
                return -102;
            }
            if (words.size() == 24) {
                return -104;
            }
            words.add(v);
            return words.size();
        }

        int hush() {
            int were = words.size();
            words.clear();
            return were;
        }

        /** Reads the saying at i: {where it ends, its POINT}, or {the fault's place, -1}. */
        private int[] saying(int i) {
            if (i >= words.size()) {
                return new int[] {words.size(), -1};
            }
            int v = words.get(i);
            if (v <= 31) {
                return new int[] {i + 1, v};
            }
            boolean turn = v >= 101 && v <= 116 || v >= 201 && v <= 216 || v == 300;
            if (!turn && v != 301) {
                return new int[] {i, -1};
            }
            int[] one = saying(i + 1);
            if (one[1] < 0) {
                return one;
            }
            if (turn) {
                int by = v == 300 ? 16 : v < 200 ? v - 100 : 32 - (v - 200);
                return new int[] {one[0], (one[1] + by) % 32};
            }
            int[] two = saying(one[0]);
            return two[1] < 0 ? two : new int[] {two[0], (one[1] + turns(one[1], two[1]) / 2) % 32};
        }

        int fault() {
            int[] all = saying(0);
            return all[1] >= 0 && all[0] == words.size() ? -1 : all[0];
        }

        int told() {
            return fault() == -1 ? saying(0)[1] : -103;
        }

        int watch() {
            if (watches.size() == 24) {
                return -104;
            }
            watches.add(new int[] {-1, -1, -1, -1, -1, -1, -1, -1, 0, 0, 0, 0, 0, 0, 0});
            return watches.size() - 1;
        }

        private boolean aWatch(int v) {
            return 0 <= v && v < watches.size();
        }

        private int put(int v, int at, int to) {
            int was = watches.get(v)[at];
            watches.get(v)[at] = to;
            return was;
        }

        int peg(int v, int k, int p) {
            if (!aWatch(v) || k < 0 || k > 7) {
                return -101;
            }
            return p == -1 || point(p) ? put(v, k, p) : -102;
        }

        int knots(int v, int k, int to) {
            if (!aWatch(v) || k < 0 || k > 3) {
                return -101;
            }
            return to < 0 || to > 12 ? -102 : put(v, 8 + k, to);
        }

        int set(int v, int what, int to) {
            if (!aWatch(v) || what < 0 || what > 2) {
                return -101;
            }
            int[] most = {5, 31, 2};
            return to < 0 || to > most[what] ? -102 : put(v, 12 + what, to);
        }

        int leeway(int p, int wind, int sail) {
            if (!point(p) || !point(wind)) {
                return -101;
            }
            if (sail < 0 || sail > 2) {
                return -102;
            }
            if (sail == 0) {
                return 0;
            }
            int angle = angle(p, wind);
            if (angle <= 5) {
                return -1;
            }
            if (angle <= 7) {
                return sail == 1 ? 2 : 1;
            }
            if (angle <= 11) {
                return sail == 1 ? 1 : 0;
            }
            return 0;
        }

        private static int down(long a, long by) {
            return (int) Math.floor((double) a / by);
        }

        private static int up(long a, long by) {
            return (int) Math.ceil((double) a / by);
        }

        private int madeWay(int[] watch, int g, int b, int side) {
            int sum = 0;
            int spread = miss;
            for (int k = 0; k < 8; k++) {
                int knots = watch[8 + k / 2];
                if (watch[k] == -1) {
                    spread += knots * 1000;
                    continue;
                }
                int heading = (watch[k] + b + 32) % 32;
                int lee = leeway(heading, watch[13], watch[14]);
                if (lee >= 0 && side != 2) {
                    boolean right = turns(watch[13], heading) < 16;
                    sum += knots * go((heading + (right ? lee : 32 - lee)) % 32, side);
                }
            }
            return side == 2 ? spread : down(sum * (100L + g), 100);
        }

        int way(int v, int g, int b, int side) {
            if (!aWatch(v)) {
                return -10000001;
            }
            if (g < -9 || g > 9 || b < -2 || b > 2 || side < 0 || side > 2) {
                return -10000002;
            }
            return madeWay(watches.get(v), g, b, side);
        }

        int miss(int v) {
            if (v < 0 || v > 20000) {
                return -102;
            }
            int was = miss;
            miss = v;
            return was;
        }

        int chart(int w, int h) {
            if (w < 4 || w > 20 || h < 4 || h > 20) {
                return -102;
            }
            if (!rows.isEmpty()) {
                return -103;
            }
            draw(w, h);
            return w * h;
        }

        int sea(int x1, int y1, int x2, int y2, int v) {
            if (!cell(x1, y1) || !cell(x2, y2)) {
                return -101;
            }
            if (v < 0 || v > 99 || x1 > x2 || y1 > y2) {
                return -102;
            }
            int many = 0;
            for (int x = x1; x <= x2; x++) {
                for (int y = y1; y <= y2; y++) {
                    depth[x][y] = v;
                    many++;
                }
            }
            return many;
        }

        int weed(int x1, int y1, int x2, int y2, boolean is) {
            if (!cell(x1, y1) || !cell(x2, y2)) {
                return -101;
            }
            if (x1 > x2 || y1 > y2) {
                return -102;
            }
            int many = 0;
            for (int x = x1; x <= x2; x++) {
                for (int y = y1; y <= y2; y++) {
                    weed[x][y] = is;
                    many++;
                }
            }
            return many;
        }

        private boolean land(int x, int y) {
            return cell(x, y) && depth[x][y] == 0;
        }

        private boolean near(int x, int y, int r) {
            for (int i = 0; cell(x, y) && i < w; i++) {
                for (int k = 0; k < h; k++) {
                    if (depth[i][k] == 0 && Math.abs(i - x) <= r && Math.abs(k - y) <= r) {
                        return true;
                    }
                }
            }
            return false;
        }

        int about(int x, int y, int what) {
            if (!cell(x, y)) {
                return -101;
            }
            if (what == 0) {
                return depth[x][y];
            }
            if (what == 1) {
                return weed[x][y] ? 1 : 0;
            }
            if (what != 2) {
                return -102;
            }
            for (int r = 0; r <= 8; r++) {
                if (near(x, y, r)) {
                    return r;
                }
            }
            return -1;
        }

        int stream(int e1, int e2, int n1, int n2) {
            for (int one : new int[] {e1, e2, n1, n2}) {
                if (one < -20000 || one > 20000) {
                    return -102;
                }
            }
            if (e1 > e2 || n1 > n2) {
                return -102;
            }
            stream = new int[] {e1, e2, n1, n2};
            return 1;
        }

        int start(int x, int y, int r) {
            if (!cell(x, y)) {
                return -101;
            }
            if (r < 0 || r > 20) {
                return -102;
            }
            start = new int[] {x, y, r};
            return cells(first());
        }

        int run(int v) {
            if (!aWatch(v)) {
                return -101;
            }
            for (int[] row : rows) {
                if (row[0] == v) {
                    return -103;
                }
            }
            return rowComes(new int[] {v, -1, 0, 0, 1});
        }

        private int rowComes(int[] row) {
            if (rows.size() == 40) {
                return -104;
            }
            rows.add(row);
            return rows.size();
        }

        int sign(int sort, int a, int b) {
            if (sort < 0 || sort > 5) {
                return -102;
            }
            if (sort == 3) {
                return rowComes(new int[] {-1, 3, 0, 0, 1});
            }
            int most = sort == 2 || sort == 5 ? 8 : 99;
            if (a < 0 || a > most) {
                return -102;
            }
            if (sort == 0 || sort == 4) {
                return b < 0 || b > 99 || a > b ? -102 : rowComes(new int[] {-1, sort, a, b, 1});
            }
            return rowComes(new int[] {-1, sort, a, 0, 1});
        }

        int count(int row, boolean is) {
            if (row < 0 || row >= rows.size()) {
                return -101;
            }
            int was = rows.get(row)[4];
            rows.get(row)[4] = is ? 1 : 0;
            return was;
        }

        int strike() {
            if (rows.isEmpty()) {
                return -103;
            }
            rows.remove(rows.size() - 1);
            return rows.size();
        }

        int row(int row, int what) {
            if (row < 0 || row >= rows.size()) {
                return -101;
            }
            return what < 0 || what > 4 ? -102 : rows.get(row)[what];
        }

        private boolean[][] first() {
            boolean[][] patch = new boolean[w][h];
            for (int x = 0; x < w; x++) {
                for (int y = 0; y < h; y++) {
                    patch[x][y] = !land(x, y) && Math.abs(x - start[0]) <= start[2] && Math.abs(y - start[1]) <= start[2];
                }
            }
            return patch;
        }

        private int cells(boolean[][] patch) {
            int many = 0;
            for (boolean[] column : patch) {
                for (boolean in : column) {
                    many += in ? 1 : 0;
                }
            }
            return many;
        }

        private boolean stays(int[] sign, int x, int y) {
            switch (sign[1]) {
                case 0:
                    return depth[x][y] >= sign[2] && depth[x][y] <= sign[3];
                case 1:
                    return depth[x][y] > sign[2];
                case 2:
                    return near(x, y, sign[2]);
                case 3:
                    return weed[x][y];
                case 4:
                    return y >= sign[2] && y <= sign[3];
                default:
                    return !near(x, y, sign[2]);
            }
        }

        private boolean[][] next(boolean[][] from, int[] row, boolean counts, int g, int m, int b) {
            boolean[][] patch = new boolean[w][h];
            int[] watch = null;
            int[] span = null;
            if (row[0] >= 0) {
                watch = watches.get(row[0]).clone();
                if (!counts) {
                    Arrays.fill(watch, 0, 8, -1);
                }
                int bent = watch[12] == m ? b : 0;
                int s = madeWay(watch, g, bent, 2);
                int east = madeWay(watch, g, bent, 0);
                int north = madeWay(watch, g, bent, 1);
                span = new int[] {down(east + stream[0] - s, 8000), up(east + stream[1] + s, 8000),
                    down(north + stream[2] - s, 8000), up(north + stream[3] + s, 8000)};
            }
            for (int x = 0; x < w; x++) {
                for (int y = 0; y < h; y++) {
                    if (!from[x][y]) {
                        continue;
                    }
                    if (watch == null) {
                        patch[x][y] = !counts || stays(row, x, y);
                        continue;
                    }
                    for (int i = Math.max(span[0], -x); i <= span[1] && x + i < w; i++) {
                        for (int k = Math.max(span[2], -y); k <= span[3] && y + k < h; k++) {
                            patch[x + i][y + k] |= !land(x + i, y + k);
                        }
                    }
                }
            }
            return patch;
        }

        /** THE PATCH behind ROW t, from a PATCH ahead of ROW from, two ROWS not COUNTING. */
        private boolean[][] patchOf(boolean[][] patch, int from, int t, int not, int nor) {
            boolean[][] now = patch;
            for (int i = from; i < t; i++) {
                now = next(now, rows.get(i), rows.get(i)[4] == 1 && i != not && i != nor, 0, 0, 0);
            }
            return now;
        }

        private boolean[][] behind(int t) {
            return patchOf(first(), 0, t, -1, -1);
        }

        private boolean known(int t) {
            return t >= 0 && t <= rows.size();
        }

        int patch(int t) {
            return known(t) ? cells(behind(t)) : -101;
        }

        int has(int t, int x, int y) {
            return known(t) && cell(x, y) ? behind(t)[x][y] ? 1 : 0 : -101;
        }

        private boolean wasHere(boolean[][] by, int t, int x, int y) {
            boolean[][] one = new boolean[w][h];
            one[x][y] = by[x][y];
            return by[x][y] && cells(patchOf(one, t, rows.size(), -1, -1)) > 0;
        }

        int here(int t) {
            if (!known(t)) {
                return -101;
            }
            boolean[][] by = behind(t);
            int many = 0;
            for (int x = 0; x < w; x++) {
                for (int y = 0; y < h; y++) {
                    many += wasHere(by, t, x, y) ? 1 : 0;
                }
            }
            return many;
        }

        int was(int t, int x, int y) {
            return known(t) && cell(x, y) ? wasHere(behind(t), t, x, y) ? 1 : 0 : -101;
        }

        private List<Integer> allBlamed() {
            List<Integer> all = new ArrayList<>();
            for (int i = 0; i < rows.size(); i++) {
                if (rows.get(i)[4] == 1 && cells(patchOf(first(), 0, rows.size(), i, -1)) > 0) {
                    all.add(i);
                }
            }
            for (int i = 0, single = all.size(); single == 0 && i < rows.size(); i++) {
                for (int k = i + 1; k < rows.size(); k++) {
                    boolean both = rows.get(i)[4] == 1 && rows.get(k)[4] == 1;
                    if (both && cells(patchOf(first(), 0, rows.size(), i, k)) > 0) {
                        all.add(100 * (i + 1) + k);
                    }
                }
            }
            return all;
        }

        int blamed() {
            if (blames == 20 || patch(rows.size()) > 0) {
                return -103;
            }
            blames++;
            return allBlamed().size();
        }

        int blame(int i) {
            if (blames == 20 || patch(rows.size()) > 0) {
                return -103;
            }
            blames++;
            List<Integer> all = allBlamed();
            return i >= 0 && i < all.size() ? all.get(i) : -1;
        }

        private List<Integer> allFits(int x, int y) {
            List<Integer> all = new ArrayList<>();
            for (int g = -9; g <= 9; g++) {
                for (int m = 0; m <= 5; m++) {
                    for (int b = -2; b <= 2; b++) {
                        if (b == 0 && m != 0) {
                            continue;
                        }
                        boolean[][] patch = first();
                        for (int[] row : rows) {
                            patch = next(patch, row, row[4] == 1, g, m, b);
                        }
                        if (patch[x][y]) {
                            all.add(100 * (g + 9) + 10 * m + (b + 2));
                        }
                    }
                }
            }
            return all;
        }

        int fits(int x, int y) {
            if (!cell(x, y)) {
                return -101;
            }
            if (landfalls == 20) {
                return -103;
            }
            landfalls++;
            return allFits(x, y).size();
        }

        int fit(int x, int y, int i) {
            if (!cell(x, y)) {
                return -101;
            }
            if (landfalls == 20) {
                return -103;
            }
            landfalls++;
            List<Integer> all = allFits(x, y);
            return i >= 0 && i < all.size() ? all.get(i) : -1;
        }

        private static boolean aCourse(int v, int t, int d, int r) {
            return v >= 1 && v <= 12 && t >= 1 && t <= 96 && d >= 0 && d <= 47 && r >= 0 && r <= 8;
        }

        private int sighted(int x, int y, int[] course) {
            for (int t = 1; t <= course[2]; t++) {
                long east = (long) t * course[1] * go(course[0], 0);
                long north = (long) t * course[1] * go(course[0], 1);
                boolean all = true;
                for (int i = down(east, 8000); i <= up(east, 8000); i++) {
                    for (int k = down(north, 8000); k <= up(north, 8000); k++) {
                        if (land(x + i, y + k)) {
                            return 0;
                        }
                        all &= near(x + i, y + k, course[4]);
                    }
                }
                if (all && (t - 1 + course[3]) % 48 < 24) {
                    return t;
                }
            }
            return 0;
        }

        int sights(int x, int y, int p, int v, int t, int d, int r) {
            if (!cell(x, y)) {
                return -101;
            }
            if (!point(p) || !aCourse(v, t, d, r)) {
                return -102;
            }
            return behind(rows.size())[x][y] ? sighted(x, y, new int[] {p, v, t, d, r}) : -103;
        }

        int sure(int p, int v, int t, int d, int r) {
            if (!point(p) || !aCourse(v, t, d, r)) {
                return -102;
            }
            boolean[][] patch = behind(rows.size());
            if (cells(patch) == 0) {
                return -103;
            }
            int greatest = 0;
            for (int x = 0; x < w; x++) {
                for (int y = 0; y < h; y++) {
                    if (patch[x][y]) {
                        int one = sighted(x, y, new int[] {p, v, t, d, r});
                        if (one == 0) {
                            return 0;
                        }
                        greatest = Math.max(greatest, one);
                    }
                }
            }
            return greatest;
        }

        int course(int v, int t, int d, int r) {
            if (!aCourse(v, t, d, r)) {
                return -102;
            }
            if (courses == 20 || patch(rows.size()) == 0) {
                return -103;
            }
            courses++;
            int best = -1;
            int least = 1000;
            for (int p = 0; p < 32; p++) {
                int one = sure(p, v, t, d, r);
                if (one > 0 && one < least) {
                    best = p;
                    least = one;
                }
            }
            return best;
        }

        int many(int what) {
            int land = 0;
            for (int[] column : depth) {
                for (int one : column) {
                    land += one == 0 ? 1 : 0;
                }
            }
            int[] all = {watches.size(), rows.size(), land, words.size(), landfalls, courses, w, h, miss, blames};
            return what >= 0 && what <= 9 ? all[what] : -102;
        }

        long digest() {
            List<Integer> all = new ArrayList<>(words);
            for (int[] watch : watches) {
                for (int one : watch) {
                    all.add(one);
                }
            }
            all.add(w);
            all.add(h);
            for (int y = 0; y < h; y++) {
                for (int x = 0; x < w; x++) {
                    all.add(depth[x][y]);
                    all.add(weed[x][y] ? 1 : 0);
                }
            }
            for (int one : stream) {
                all.add(one);
            }
            all.add(miss);
            for (int one : start) {
                all.add(one);
            }
            for (int[] row : rows) {
                for (int one : row) {
                    all.add(one);
                }
            }
            all.add(patch(rows.size()));
            all.add(landfalls);
            all.add(courses);
            all.add(blames);
            long hash = 199;
            for (int one : all) {
                hash = 31 * hash + one;
            }
            return hash;
        }
    }
}
