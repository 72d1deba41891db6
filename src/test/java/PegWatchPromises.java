import java.lang.reflect.Constructor;
import java.lang.reflect.Method;
import java.lang.reflect.Modifier;
import java.util.Set;
import java.util.TreeSet;

/** For each promise of the document: ordinary inputs, the edges it names, and wrong inputs. */
public final class PegWatchPromises {
    private static final int NONE = -1;
    private static final int UNKNOWN = -101;
    private static final int OUTSIDE = -102;
    private static final int STATE = -103;
    private static final int FULL = -104;
    private static final int LOW = Integer.MIN_VALUE;
    private static final int HIGH = Integer.MAX_VALUE;
    private static int wrong = 0;

    private static void due(int promise, String what, long got, long want) {
        if (got != want) {
            wrong++;
            System.out.println("promise " + promise + ": " + what + " answered " + got + ", due is " + want);
        }
    }

    public static void main(String[] args) {
        theFace();
        p1();
        p2();
        p3();
        p4();
        p5();
        p6();
        p7();
        p8();
        p9();
        p10();
        p11();
        p12();
        p13();
        p14();
        p15();
        p16();
        p17();
        p18();
        p19();
        p20();
        p21();
        p22();
        p23();
        p24();
        p25();
        p26();
        p27();
        p28();
        p29();
        p30();
        p31();
        p32();
        p33();
        p34();
        p35();
        p36();
        p37();
        p38();
        p39();
        p40();
        theGreatestChart();
        theFullLog();
        refusalsChangeNothing();
        System.out.println(wrong == 0 ? "all answers are as due" : wrong + " answers are not as due");
        if (wrong != 0) {
            System.exit(1);
        }
    }

    // ---- what the tests share

    private static void say(PegWatch x, int... numbers) {
        x.hush();
        for (int one : numbers) {
            x.word(one);
        }
    }

    /** A WATCH with all PEGS at a POINT (or LOST), all KNOTS alike. */
    private static int watchAt(PegWatch x, int point, int knots) {
        int w = x.watch();
        for (int k = 0; k < 8; k++) {
            x.peg(w, k, point);
        }
        for (int k = 0; k < 4; k++) {
            x.knots(w, k, knots);
        }
        return w;
    }

    /** A CHART of 10 by 6 without MISS, THE START at (1, 2) alone. */
    private static PegWatch still() {
        PegWatch x = new PegWatch();
        x.chart(10, 6);
        x.miss(0);
        x.start(1, 2, 0);
        return x;
    }

    /** The digest of numbers, as promise 40 makes it. */
    private static long fold(long... numbers) {
        long h = 199;
        for (long one : numbers) {
            h = 31 * h + one;
        }
        return h;
    }

    private static void theFace() {
        due(0, "final", Modifier.isFinal(PegWatch.class.getModifiers()) ? 1 : 0, 1);
        Set<String> names = new TreeSet<>();
        for (Method method : PegWatch.class.getDeclaredMethods()) {
            if (!Modifier.isPrivate(method.getModifiers())) {
                due(0, method.getName() + " is public", Modifier.isPublic(method.getModifiers()) ? 1 : 0, 1);
                names.add(method.getName());
            }
        }
        String face = "about blame blamed chart count course digest fault fit fits go has here hush knots leeway many "
                + "miss name patch peg read row run sea set sights sign start stream strike sure told turns was watch "
                + "way weed word";
        due(0, "methods " + names, String.join(" ", names).equals(face) ? 1 : 0, 1);
        Constructor<?>[] constructors = PegWatch.class.getDeclaredConstructors();
        due(0, "constructors", constructors.length, 1);
        due(0, "NONE", PegWatch.NONE, NONE);
        due(0, "UNKNOWN", PegWatch.UNKNOWN, UNKNOWN);
        due(0, "OUTSIDE", PegWatch.OUTSIDE, OUTSIDE);
        due(0, "STATE", PegWatch.STATE, STATE);
        due(0, "FULL", PegWatch.FULL, FULL);
    }

    private static void p1() {
        PegWatch x = new PegWatch();
        due(1, "w", x.many(6), 8);
        due(1, "h", x.many(7), 8);
        due(1, "WATCHES", x.many(0), 0);
        due(1, "ROWS", x.many(1), 0);
        due(1, "land", x.many(2), 0);
        due(1, "MISS", x.many(8), 2000);
        due(1, "THE START", x.patch(0), 1);
        due(1, "THE START", x.has(0, 0, 0), 1);
        for (int y = 0; y < 8; y++) {
            for (int c = 0; c < 8; c++) {
                due(1, "DEPTH", x.about(c, y, 0), 50);
                due(1, "WEED", x.about(c, y, 1), 0);
            }
        }
        x.watch();
        x.miss(0);
        x.run(0);
        due(1, "no STREAM", x.patch(1), 1);
    }

    private static void p2() {
        PegWatch x = new PegWatch();
        int[] names = {1, 68, 44, 319, 8, 320, 80, 103, 2, 105, 92, 752, 20, 753, 128, 140, 3, 142, 130, 825, 22, 826,
            166, 177, 4, 175, 154, 394, 10, 391, 46, 70};
        for (int p = 0; p < 32; p++) {
            due(2, "name(" + p + ")", x.name(p), names[p]);
        }
        for (int p : new int[] {-1, 32, LOW, HIGH}) {
            due(2, "name(" + p + ")", x.name(p), -1);
        }
    }

    private static void p3() {
        PegWatch x = new PegWatch();
        for (int p = 0; p < 32; p++) {
            due(3, "read(name(" + p + "))", x.read(x.name(p)), p);
        }
        due(3, "b", x.read(5), -1000);
        due(3, "bN", x.read(31), -1000);
        due(3, "NN", x.read(7), -1002);
        due(3, "NW", x.read(10), 28);
        due(3, "NWb", x.read(65), -1003);
        due(3, "NEbNN", x.read(319 * 6 + 1), -1004);
        due(3, "NEbSS", x.read(((8 * 6 + 5) * 6 + 3) * 6 + 3), -1003);
        due(3, "NS", x.read(9), -1001);
        due(3, "WbNE", x.read(175 * 6 + 2), -1003);
        due(3, "eleven N", x.read(72559411), -1002);
        for (int name : new int[] {0, -1, LOW, 6, 36, 37, 42, 319 * 6, HIGH - HIGH % 6}) {
            due(3, "read(" + name + ")", x.read(name), OUTSIDE);
        }
    }

    private static void p4() {
        PegWatch x = new PegWatch();
        due(4, "like ones", x.turns(7, 7), 0);
        due(4, "on", x.turns(0, 31), 31);
        due(4, "round", x.turns(31, 0), 1);
        due(4, "back", x.turns(4, 30), 26);
        due(4, "opposite", x.turns(24, 8), 16);
        due(4, "p", x.turns(-1, 0), UNKNOWN);
        due(4, "p", x.turns(32, 0), UNKNOWN);
        due(4, "q", x.turns(0, -1), UNKNOWN);
        due(4, "q", x.turns(0, 32), UNKNOWN);
        due(4, "q", x.turns(0, HIGH), UNKNOWN);
    }

    private static void p5() {
        PegWatch x = new PegWatch();
        int[] east = {0, 195, 383, 556, 707, 831, 924, 981, 1000, 981, 924, 831, 707, 556, 383, 195, 0, -195, -383, -556,
            -707, -831, -924, -981, -1000, -981, -924, -831, -707, -556, -383, -195};
        for (int p = 0; p < 32; p++) {
            due(5, "go(" + p + ", 0)", x.go(p, 0), east[p]);
            due(5, "go(" + p + ", 1)", x.go(p, 1), east[(p + 8) % 32]);
        }
        due(5, "p", x.go(32, 0), -100000);
        due(5, "p first", x.go(-1, 2), -100000);
        due(5, "side", x.go(0, 2), -100001);
        due(5, "side", x.go(31, -1), -100001);
    }

    private static void p6() {
        PegWatch x = new PegWatch();
        due(6, "first", x.word(0), 1);
        due(6, "a number that is no word", x.word(999), 2);
        due(6, "below", x.word(-1), OUTSIDE);
        due(6, "above", x.word(1000), OUTSIDE);
        for (int i = 3; i <= 24; i++) {
            due(6, "word", x.word(5), i);
        }
        due(6, "full", x.word(5), FULL);
        due(6, "outside first", x.word(1000), OUTSIDE);
        due(6, "still", x.many(3), 24);
    }

    private static void p7() {
        PegWatch x = new PegWatch();
        due(7, "none", x.hush(), 0);
        x.word(1);
        x.word(2);
        due(7, "two", x.hush(), 2);
        due(7, "gone", x.many(3), 0);
        due(7, "again", x.word(3), 1);
        due(7, "the new one", x.told(), 3);
    }

    private static void p8() {
        PegWatch x = new PegWatch();
        due(8, "no words", x.fault(), 0);
        int[] good = {0, 31};
        for (int one : good) {
            say(x, one);
            due(8, "a point", x.fault(), NONE);
        }
        for (int one : new int[] {101, 116, 201, 216, 300, 301}) {
            say(x, one);
            due(8, one + " alone", x.fault(), 1);
            say(x, one, 4, 5);
            due(8, one + " of two", x.fault(), one == 301 ? NONE : 2);
        }
        for (int one : new int[] {32, 99, 100, 117, 200, 217, 299, 302, 999}) {
            say(x, one, 4);
            due(8, one + " is no word", x.fault(), 0);
            say(x, 300, one);
            due(8, one + " is no word", x.fault(), 1);
        }
        say(x, 4, 301);
        due(8, "something follows", x.fault(), 1);
        say(x, 301, 301, 1, 2);
        due(8, "one is missing", x.fault(), 4);
        say(x, 301, 301, 1, 2, 3);
        due(8, "nested", x.fault(), NONE);
        say(x, 301, 301, 1, 2, 3, 500);
        due(8, "behind it", x.fault(), 5);
    }

    private static void p9() {
        PegWatch x = new PegWatch();
        due(9, "no words", x.told(), STATE);
        say(x, 101, 31);
        due(9, "right", x.told(), 0);
        say(x, 216, 3);
        due(9, "left", x.told(), 19);
        say(x, 300, 17);
        due(9, "opposite", x.told(), 1);
        say(x, 301, 4, 0);
        due(9, "halfway goes on by east", x.told(), 18);
        say(x, 301, 0, 3);
        due(9, "halfway, rounded down", x.told(), 1);
        say(x, 301, 301, 0, 8, 201, 301, 9, 31);
        due(9, "nested", x.told(), 11);
        say(x, 301, 0);
        due(9, "one is missing", x.told(), STATE);
        say(x, 0, 0);
        due(9, "one too many", x.told(), STATE);
        x.hush();
        for (int i = 0; i < 23; i++) {
            x.word(101);
        }
        x.word(10);
        due(9, "24 words", x.told(), 1);
    }

    private static void p10() {
        PegWatch x = new PegWatch();
        for (int w = 0; w < 24; w++) {
            due(10, "watch", x.watch(), w);
            for (int k = 0; k < 8; k++) {
                due(10, "PEG", x.peg(w, k, NONE), NONE);
            }
            for (int k = 0; k < 4; k++) {
                due(10, "KNOTS", x.knots(w, k, 0), 0);
            }
            for (int what = 0; what < 3; what++) {
                due(10, "the rest", x.set(w, what, 0), 0);
            }
        }
        due(10, "watch", x.watch(), FULL);
        due(10, "WATCHES", x.many(0), 24);
    }

    private static void p11() {
        PegWatch x = new PegWatch();
        due(11, "no watch", x.peg(0, 0, 0), UNKNOWN);
        x.watch();
        due(11, "first", x.peg(0, 7, 31), NONE);
        due(11, "again", x.peg(0, 7, 0), 31);
        due(11, "lost", x.peg(0, 7, NONE), 0);
        due(11, "was lost", x.peg(0, 7, 3), NONE);
        due(11, "another peg", x.peg(0, 0, 5), NONE);
        due(11, "watch", x.peg(1, 0, 0), UNKNOWN);
        due(11, "watch", x.peg(-1, 0, 0), UNKNOWN);
        due(11, "peg", x.peg(0, 8, 40), UNKNOWN);
        due(11, "peg", x.peg(0, -1, 0), UNKNOWN);
        due(11, "point", x.peg(0, 0, 32), OUTSIDE);
        due(11, "point", x.peg(0, 0, -2), OUTSIDE);
        due(11, "kept", x.peg(0, 0, 5), 5);
    }

    private static void p12() {
        PegWatch x = new PegWatch();
        due(12, "no watch", x.knots(0, 0, 0), UNKNOWN);
        x.watch();
        due(12, "first", x.knots(0, 3, 12), 0);
        due(12, "again", x.knots(0, 3, 0), 12);
        due(12, "watch", x.knots(1, 0, 13), UNKNOWN);
        due(12, "knots", x.knots(0, 4, 0), UNKNOWN);
        due(12, "knots", x.knots(0, -1, 0), UNKNOWN);
        due(12, "above", x.knots(0, 0, 13), OUTSIDE);
        due(12, "below", x.knots(0, 0, -1), OUTSIDE);
        due(12, "kept", x.knots(0, 0, 1), 0);
    }

    private static void p13() {
        PegWatch x = new PegWatch();
        due(13, "no watch", x.set(0, 0, 0), UNKNOWN);
        x.watch();
        int[] most = {5, 31, 2};
        for (int what = 0; what < 3; what++) {
            due(13, "first", x.set(0, what, most[what]), 0);
            due(13, "above", x.set(0, what, most[what] + 1), OUTSIDE);
            due(13, "below", x.set(0, what, -1), OUTSIDE);
            due(13, "again", x.set(0, what, 1), most[what]);
        }
        due(13, "what", x.set(0, 3, 0), UNKNOWN);
        due(13, "what", x.set(0, -1, 99), UNKNOWN);
        due(13, "watch", x.set(-1, 0, 0), UNKNOWN);
    }

    private static void p14() {
        PegWatch x = new PegWatch();
        int[] first = {-1, -1, -1, -1, -1, -1, 2, 2, 1, 1, 1, 1, 0, 0, 0, 0, 0};
        int[] second = {-1, -1, -1, -1, -1, -1, 1, 1, 0, 0, 0, 0, 0, 0, 0, 0, 0};
        for (int angle = 0; angle <= 16; angle++) {
            for (int wind : new int[] {0, 5, 31}) {
                int right = (wind + angle) % 32;
                int left = (wind + 32 - angle) % 32;
                due(14, "no sail " + angle, x.leeway(right, wind, 0), 0);
                due(14, "right " + angle, x.leeway(right, wind, 1), first[angle]);
                due(14, "left " + angle, x.leeway(left, wind, 1), first[angle]);
                due(14, "right " + angle, x.leeway(right, wind, 2), second[angle]);
                due(14, "left " + angle, x.leeway(left, wind, 2), second[angle]);
            }
        }
        due(14, "p", x.leeway(32, 0, 3), UNKNOWN);
        due(14, "p", x.leeway(-1, 0, 0), UNKNOWN);
        due(14, "wind", x.leeway(0, 32, 0), UNKNOWN);
        due(14, "wind", x.leeway(0, -1, 9), UNKNOWN);
        due(14, "sail", x.leeway(0, 0, 3), OUTSIDE);
        due(14, "sail", x.leeway(0, 0, -1), OUTSIDE);
    }

    private static void p15() {
        PegWatch x = new PegWatch();
        due(15, "no watch", x.way(0, 0, 0, 0), -10000001);
        int w = watchAt(x, 8, 0);
        x.knots(w, 0, 3);
        x.knots(w, 3, 5);
        due(15, "east", x.way(w, 0, 0, 0), 16000);
        due(15, "north", x.way(w, 0, 0, 1), 0);
        due(15, "spread", x.way(w, 0, 0, 2), 2000);
        due(15, "glass", x.way(w, -9, 0, 0), 14560);
        due(15, "glass", x.way(w, 9, 0, 0), 17440);
        due(15, "bent to the right", x.way(w, 0, 1, 1), -3120);
        due(15, "bent to the left", x.way(w, 0, -2, 1), 6128);
        due(15, "down from zero", x.way(w, 7, 1, 1), -3339);
        due(15, "no glass on the spread", x.way(w, 9, 2, 2), 2000);
        x.peg(w, 0, NONE);
        x.peg(w, 7, NONE);
        x.peg(w, 2, NONE);
        due(15, "two lost", x.way(w, 0, 0, 0), 8000);
        due(15, "two lost", x.way(w, 0, 0, 2), 10000);
        leewayOfAWay(x);
        for (int[] args : new int[][] {{0, 10, 0, 0}, {0, -10, 0, 0}, {0, 0, 3, 0}, {0, 0, -3, 0}, {0, 0, 0, 3},
            {0, 0, 0, -1}}) {
            due(15, "outside", x.way(args[0], args[1], args[2], args[3]), -10000002);
        }
        due(15, "watch first", x.way(9, 10, 0, 0), -10000001);
        due(15, "watch first", x.way(-1, 0, 0, 3), -10000001);
    }

    private static void leewayOfAWay(PegWatch x) {
        int w = watchAt(x, 6, 1);
        x.set(w, 1, 0);
        x.set(w, 2, 1);
        due(15, "close on the right", x.way(w, 0, 0, 0), 8000);
        due(15, "bent into the wind", x.way(w, 0, -1, 0), 0);
        due(15, "bent into the wind spreads nothing", x.way(w, 0, -1, 2), 2000);
        due(15, "bent off the wind", x.way(w, 0, 2, 1), -8 * 195);
        x.set(w, 1, 12);
        due(15, "close on the left", x.way(w, 0, 0, 0), 8 * 707);
        due(15, "bent off to the left", x.way(w, 0, -2, 0), 8 * 556);
        x.set(w, 2, 2);
        due(15, "less sail", x.way(w, 0, 0, 0), 8 * 831);
        x.set(w, 1, 22);
        due(15, "before the wind", x.way(w, 0, 0, 0), 8 * 924);
    }

    private static void p16() {
        PegWatch x = new PegWatch();
        due(16, "first", x.miss(0), 2000);
        due(16, "again", x.miss(20000), 0);
        due(16, "above", x.miss(20001), OUTSIDE);
        due(16, "below", x.miss(-1), OUTSIDE);
        due(16, "kept", x.miss(5), 20000);
        x.watch();
        due(16, "spread", x.way(0, 0, 0, 2), 5);
    }

    private static void p17() {
        PegWatch x = new PegWatch();
        due(17, "least", x.chart(4, 5), 20);
        due(17, "w", x.many(6), 4);
        due(17, "h", x.many(7), 5);
        due(17, "most", x.chart(20, 20), 400);
        for (int[] side : new int[][] {{3, 8}, {8, 3}, {21, 8}, {8, 21}, {LOW, 8}, {8, HIGH}}) {
            due(17, "side", x.chart(side[0], side[1]), OUTSIDE);
        }
        x.sea(0, 0, 19, 19, 7);
        x.sea(3, 3, 3, 3, 0);
        x.weed(0, 0, 19, 19, true);
        x.start(9, 9, 3);
        x.stream(1000, 1000, 0, 0);
        x.watch();
        due(17, "all anew", x.chart(6, 6), 36);
        due(17, "no land", x.many(2), 0);
        due(17, "depth", x.about(3, 3, 0), 50);
        due(17, "weed", x.about(3, 3, 1), 0);
        due(17, "start", x.patch(0), 1);
        due(17, "start", x.has(0, 0, 0), 1);
        due(17, "watches stay", x.many(0), 1);
        x.miss(0);
        x.run(0);
        due(17, "the stream stays", x.patch(1), 2);
        due(17, "the log is not empty", x.chart(6, 6), STATE);
        due(17, "outside first", x.chart(3, 6), OUTSIDE);
        x.strike();
        due(17, "empty again", x.chart(5, 5), 25);
    }

    private static void p18() {
        PegWatch x = new PegWatch();
        x.chart(10, 6);
        due(18, "one", x.sea(9, 5, 9, 5, 0), 1);
        due(18, "some", x.sea(2, 1, 4, 2, 99), 6);
        due(18, "in", x.about(4, 2, 0), 99);
        due(18, "out", x.about(5, 2, 0), 50);
        due(18, "out", x.about(4, 3, 0), 50);
        due(18, "land", x.many(2), 1);
        due(18, "no land", x.sea(0, 0, 9, 5, 1), 60);
        due(18, "no land", x.many(2), 0);
        for (int[] c : new int[][] {{-1, 0, 0, 0}, {0, -1, 0, 0}, {0, 0, 10, 0}, {0, 0, 0, 6}, {10, 0, 0, 0}, {0, 6, 0, 0}}) {
            due(18, "corner", x.sea(c[0], c[1], c[2], c[3], 100), UNKNOWN);
        }
        due(18, "v", x.sea(0, 0, 0, 0, 100), OUTSIDE);
        due(18, "v", x.sea(0, 0, 0, 0, -1), OUTSIDE);
        due(18, "x", x.sea(1, 0, 0, 0, 0), OUTSIDE);
        due(18, "y", x.sea(0, 1, 0, 0, 0), OUTSIDE);
        due(18, "kept", x.about(0, 0, 0), 1);
        x.start(0, 0, 1);
        x.sign(0, 0, 99);
        due(18, "with a log", x.sea(0, 0, 0, 0, 0), 1);
        due(18, "of the start", x.patch(0), 3);
        due(18, "of the patch", x.has(1, 0, 0), 0);
    }

    private static void p19() {
        PegWatch x = new PegWatch();
        x.chart(10, 6);
        due(19, "some", x.weed(2, 1, 4, 2, true), 6);
        due(19, "in", x.about(2, 1, 1), 1);
        due(19, "in", x.about(4, 2, 1), 1);
        due(19, "out", x.about(1, 1, 1), 0);
        due(19, "out", x.about(4, 0, 1), 0);
        due(19, "not", x.weed(3, 0, 9, 5, false), 42);
        due(19, "still", x.about(2, 2, 1), 1);
        due(19, "no more", x.about(3, 2, 1), 0);
        due(19, "corner", x.weed(0, 0, 10, 0, true), UNKNOWN);
        due(19, "corner", x.weed(0, -1, 0, 0, true), UNKNOWN);
        due(19, "corner first", x.weed(5, 5, 4, 6, true), UNKNOWN);
        due(19, "x", x.weed(1, 0, 0, 0, true), OUTSIDE);
        due(19, "y", x.weed(0, 1, 0, 0, true), OUTSIDE);
    }

    private static void p20() {
        PegWatch x = new PegWatch();
        x.chart(20, 12);
        due(20, "no land", x.about(0, 0, 2), NONE);
        x.sea(10, 2, 10, 2, 0);
        due(20, "land", x.about(10, 2, 2), 0);
        due(20, "beside", x.about(11, 3, 2), 1);
        due(20, "8 to the west", x.about(2, 2, 2), 8);
        due(20, "9 to the west", x.about(1, 2, 2), NONE);
        due(20, "8 to the north", x.about(10, 10, 2), 8);
        due(20, "9 to the north", x.about(10, 11, 2), NONE);
        due(20, "the greater one", x.about(7, 9, 2), 7);
        x.sea(13, 8, 13, 8, 0);
        due(20, "the nearer land", x.about(10, 9, 2), 3);
        due(20, "depth", x.about(0, 0, 0), 50);
        due(20, "x", x.about(20, 0, 0), UNKNOWN);
        due(20, "x", x.about(-1, 0, 9), UNKNOWN);
        due(20, "y", x.about(0, 12, 0), UNKNOWN);
        due(20, "y", x.about(0, -1, 0), UNKNOWN);
        due(20, "what", x.about(0, 0, 3), OUTSIDE);
        due(20, "what", x.about(0, 0, -1), OUTSIDE);
    }

    private static void p21() {
        PegWatch x = still();
        watchAt(x, NONE, 0);
        x.run(0);
        due(21, "no stream", x.patch(1), 1);
        due(21, "stream", x.stream(8000, 16001, -1, 0), 1);
        due(21, "east 1 to 3, north -1 to 0", x.patch(1), 6);
        due(21, "least", x.has(1, 2, 1), 1);
        due(21, "most", x.has(1, 4, 2), 1);
        for (int[] s : new int[][] {{-20001, 0, 0, 0}, {0, 20001, 0, 0}, {0, 0, -20001, 0}, {0, 0, 0, 20001}, {1, 0, 0, 0},
            {0, 0, 1, 0}, {20001, 20002, 0, 0}, {0, 0, -20003, -20002}, {LOW, HIGH, 0, 0}}) {
            due(21, "outside", x.stream(s[0], s[1], s[2], s[3]), OUTSIDE);
        }
        due(21, "kept", x.patch(1), 6);
        due(21, "edges", x.stream(-20000, -20000, 20000, 20000), 1);
        due(21, "off the chart", x.patch(1), 0);
    }

    private static void p22() {
        PegWatch x = new PegWatch();
        x.chart(10, 6);
        due(22, "one", x.start(4, 3, 0), 1);
        due(22, "nine", x.start(4, 3, 1), 9);
        due(22, "cut by the edge", x.start(0, 5, 2), 9);
        due(22, "all", x.start(0, 0, 20), 60);
        x.sea(4, 3, 5, 3, 0);
        due(22, "no land", x.start(4, 3, 1), 7);
        due(22, "on land", x.start(4, 3, 0), 0);
        due(22, "x", x.start(10, 0, 21), UNKNOWN);
        due(22, "y", x.start(0, -1, 0), UNKNOWN);
        due(22, "r", x.start(0, 0, 21), OUTSIDE);
        due(22, "r", x.start(0, 0, -1), OUTSIDE);
        due(22, "kept", x.patch(0), 0);
        x.sign(4, 0, 3);
        due(22, "with a log", x.start(1, 3, 1), 9);
        due(22, "with a log", x.patch(1), 6);
    }

    private static void p23() {
        PegWatch x = new PegWatch();
        due(23, "no watch", x.run(0), UNKNOWN);
        for (int w = 0; w < 24; w++) {
            x.watch();
        }
        due(23, "first", x.run(5), 1);
        due(23, "second", x.run(0), 2);
        due(23, "in the log", x.run(5), STATE);
        due(23, "unknown", x.run(24), UNKNOWN);
        due(23, "unknown", x.run(-1), UNKNOWN);
        due(23, "counting", x.row(0, 4), 1);
        x.count(1, false);
        due(23, "in the log, not counting", x.run(0), STATE);
        x.strike();
        due(23, "struck", x.run(0), 2);
        due(23, "counts anew", x.row(1, 4), 1);
        for (int i = 2; i < 40; i++) {
            x.sign(3, 0, 0);
        }
        due(23, "full", x.run(1), FULL);
        due(23, "in the log first", x.run(5), STATE);
        due(23, "unknown first", x.run(99), UNKNOWN);
    }

    private static void p24() {
        PegWatch x = new PegWatch();
        int[][] good = {{0, 0, 99}, {0, 7, 7}, {1, 0, -5}, {1, 99, 200}, {2, 0, -1}, {2, 8, 99}, {3, -7, -8}, {3, 200, 100},
            {4, 0, 99}, {4, 5, 5}, {5, 0, -1}, {5, 8, 1}};
        int rows = 0;
        for (int[] s : good) {
            rows++;
            due(24, "sign " + s[0] + " " + s[1] + " " + s[2], x.sign(s[0], s[1], s[2]), rows);
        }
        due(24, "b is not looked at", x.row(2, 3), 0);
        due(24, "a is not looked at", x.row(7, 2), 0);
        int[][] bad = {{-1, 0, 0}, {6, 0, 0}, {0, -1, 5}, {0, 100, 100}, {0, 5, 100}, {0, 6, 5}, {0, 0, -1}, {1, -1, 0},
            {1, 100, 0}, {2, -1, 0}, {2, 9, 0}, {4, -1, 0}, {4, 0, 100}, {4, 100, 100}, {4, 2, 1}, {5, -1, 0}, {5, 9, 9}};
        for (int[] s : bad) {
            due(24, "sign " + s[0] + " " + s[1] + " " + s[2], x.sign(s[0], s[1], s[2]), OUTSIDE);
        }
        for (int i = rows + 1; i <= 40; i++) {
            due(24, "sign", x.sign(3, 0, 0), i);
        }
        due(24, "full", x.sign(3, 0, 0), FULL);
        due(24, "outside first", x.sign(6, 0, 0), OUTSIDE);
        whatSignsCut();
    }

    private static void whatSignsCut() {
        int[][] cases = {{0, 20, 30, 3}, {0, 31, 49, 0}, {1, 30, 0, 56}, {1, 29, 0, 57}, {1, 50, 0, 0}, {2, 0, 0, 0}, {2, 1, 0, 8},
            {2, 2, 0, 24}, {3, 0, 0, 4}, {4, 5, 5, 10}, {4, 4, 99, 20}, {4, 6, 9, 0}, {5, 0, 0, 59}, {5, 1, 0, 51}};
        for (int[] c : cases) {
            PegWatch x = new PegWatch();
            x.chart(10, 6);
            x.sea(4, 3, 4, 3, 0);
            x.sea(0, 0, 2, 0, 20);
            x.sea(2, 0, 2, 0, 30);
            x.weed(3, 3, 7, 3, true);
            x.start(0, 0, 20);
            x.sign(c[0], c[1], c[2]);
            due(24, "cut by " + c[0] + " " + c[1] + " " + c[2], x.patch(1), c[3]);
        }
    }

    private static void p25() {
        PegWatch x = still();
        due(25, "no rows", x.count(0, true), UNKNOWN);
        watchAt(x, 8, 1);
        x.run(0);
        x.sign(4, 4, 5);
        due(25, "a watch", x.has(1, 2, 2), 1);
        due(25, "a watch", x.patch(1), 1);
        due(25, "a sign", x.patch(2), 0);
        due(25, "did", x.count(0, false), 1);
        due(25, "did not", x.count(0, false), 0);
        due(25, "spread by all knots", x.patch(1), 9);
        due(25, "did", x.count(1, false), 1);
        due(25, "cuts nothing", x.patch(2), 9);
        due(25, "did not", x.count(0, true), 0);
        due(25, "as it was", x.patch(2), 1);
        x.count(0, false);
        x.miss(1);
        due(25, "all knots and MISS: two to each side, cut by the edge", x.patch(1), 20);
        x.watch();
        x.run(1);
        x.strike();
        x.strike();
        x.strike();
        x.run(1);
        x.miss(8000);
        x.count(0, false);
        due(25, "no knots: MISS alone", x.patch(1), 9);
        x.count(0, true);
        due(25, "no knots, counting", x.patch(1), 9);
        x.sign(3, 0, 0);
        due(25, "row", x.count(2, true), UNKNOWN);
        due(25, "row", x.count(-1, true), UNKNOWN);
    }

    private static void p26() {
        PegWatch x = new PegWatch();
        due(26, "none", x.strike(), STATE);
        x.sign(4, 5, 5);
        x.sign(4, 0, 0);
        due(26, "the last", x.strike(), 1);
        due(26, "is gone", x.row(1, 1), UNKNOWN);
        due(26, "the first stays", x.row(0, 2), 5);
        due(26, "the first", x.strike(), 0);
        due(26, "none", x.strike(), STATE);
        due(26, "as at first", x.patch(0), 1);
    }

    private static void p27() {
        PegWatch x = new PegWatch();
        x.watch();
        x.watch();
        x.run(1);
        x.sign(0, 20, 30);
        x.sign(5, 4, 9);
        x.count(2, false);
        int[][] rows = {{1, -1, 0, 0, 1}, {-1, 0, 20, 30, 1}, {-1, 5, 4, 0, 0}};
        for (int r = 0; r < 3; r++) {
            for (int what = 0; what < 5; what++) {
                due(27, "row(" + r + ", " + what + ")", x.row(r, what), rows[r][what]);
            }
        }
        due(27, "row", x.row(3, 9), UNKNOWN);
        due(27, "row", x.row(-1, 0), UNKNOWN);
        due(27, "what", x.row(0, 5), OUTSIDE);
        due(27, "what", x.row(0, -1), OUTSIDE);
        x.strike();
        x.strike();
        x.strike();
        x.sign(3, 5, 5);
        due(27, "no watch is left of it", x.row(0, 0), NONE);
        due(27, "no number is left of it", x.row(0, 3), 0);
    }

    private static void p28() {
        PegWatch x = still();
        int w = watchAt(x, 8, 2);
        x.run(w);
        due(28, "two east", x.patch(1), 1);
        due(28, "two east", x.has(1, 3, 2), 1);
        x.miss(1);
        due(28, "one more to each side", x.patch(1), 9);
        x.miss(0);
        x.knots(w, 0, 3);
        due(28, "rounded up", x.patch(1), 2);
        x.peg(w, 7, NONE);
        due(28, "a lost peg: east 16 less 2 to 16 and 2, north -2 to 2", x.patch(1), 9);
        x.sea(3, 2, 3, 2, 0);
        due(28, "no land", x.patch(1), 8);
        x.start(9, 5, 0);
        due(28, "off the chart", x.patch(1), 0);
        due(28, "the start", x.patch(0), 1);
        due(28, "t", x.patch(2), UNKNOWN);
        due(28, "t", x.patch(-1), UNKNOWN);
        x.start(0, 0, 0);
        x.peg(w, 7, 8);
        x.knots(w, 0, 2);
        x.sea(1, 0, 1, 0, 0);
        due(28, "over land", x.has(1, 2, 0), 1);
    }

    private static void p29() {
        PegWatch x = still();
        x.start(1, 2, 1);
        x.sign(4, 3, 9);
        due(29, "in", x.has(0, 0, 1), 1);
        due(29, "out", x.has(0, 3, 1), 0);
        due(29, "in", x.has(1, 2, 3), 1);
        due(29, "cut", x.has(1, 2, 2), 0);
        due(29, "t", x.has(2, 0, 0), UNKNOWN);
        due(29, "t", x.has(-1, 0, 0), UNKNOWN);
        due(29, "x", x.has(0, 10, 0), UNKNOWN);
        due(29, "x", x.has(0, -1, 0), UNKNOWN);
        due(29, "y", x.has(0, 0, 6), UNKNOWN);
        due(29, "y", x.has(0, 0, -1), UNKNOWN);
    }

    /** From (1, 2) and those about it, less land at (1, 3), one CELL east, and then y is 3. */
    private static PegWatch seenBack() {
        PegWatch x = still();
        x.start(1, 2, 1);
        x.run(watchAt(x, 8, 1));
        x.sea(1, 3, 1, 3, 0);
        x.sign(4, 3, 3);
        return x;
    }

    private static void p30() {
        PegWatch x = seenBack();
        due(30, "the start has", x.patch(0), 8);
        due(30, "at the end", x.here(2), 1);
        due(30, "behind the watch", x.patch(1), 7);
        due(30, "behind the watch", x.here(1), 1);
        due(30, "at the start", x.here(0), 1);
        x.count(1, false);
        due(30, "without the sign: (0, 3) goes on to land", x.here(0), 7);
        x.count(0, false);
        due(30, "without the watch", x.here(0), 8);
        x.sign(0, 0, 0);
        due(30, "nothing is left", x.here(0), 0);
        due(30, "t", x.here(4), UNKNOWN);
        due(30, "t", x.here(-1), UNKNOWN);
    }

    private static void p31() {
        PegWatch x = seenBack();
        due(31, "leads there", x.was(0, 2, 3), 1);
        due(31, "leads to land", x.was(0, 0, 3), 0);
        due(31, "leads past", x.was(0, 2, 2), 0);
        due(31, "is cut", x.was(1, 2, 2), 0);
        due(31, "stays", x.was(1, 3, 3), 1);
        due(31, "stays", x.was(2, 3, 3), 1);
        due(31, "from elsewhere, was never there", x.was(0, 5, 3), 0);
        due(31, "t", x.was(3, 0, 0), UNKNOWN);
        due(31, "x", x.was(0, 10, 0), UNKNOWN);
        due(31, "y", x.was(0, 0, -1), UNKNOWN);
    }

    private static void p32() {
        PegWatch x = still();
        due(32, "not empty", x.blamed(), STATE);
        due(32, "not done", x.many(9), 0);
        x.sign(4, 2, 2);
        x.sign(4, 5, 5);
        due(32, "one", x.blamed(), 1);
        x.sign(4, 1, 1);
        x.sign(4, 2, 3);
        due(32, "a pair", x.blamed(), 1);
        x.sign(4, 0, 1);
        due(32, "no pair", x.blamed(), 0);
        x.count(4, false);
        x.count(2, false);
        due(32, "those that do not count", x.blamed(), 1);
        x.count(1, false);
        due(32, "not empty again", x.blamed(), STATE);
        x.count(1, true);
        for (int i = 4; i < 20; i++) {
            due(32, "again", i % 2 == 0 ? x.blamed() : x.blame(0), 1);
        }
        due(32, "20 times", x.many(9), 20);
        due(32, "no more", x.blamed(), STATE);
        due(32, "no more", x.blame(0), STATE);
        due(32, "20 times", x.many(9), 20);
        aWatchIsBlamed();
    }

    private static void aWatchIsBlamed() {
        PegWatch x = still();
        x.run(watchAt(x, 8, 1));
        x.sign(4, 3, 3);
        x.sign(0, 50, 50);
        due(32, "the watch or the sign", x.blamed(), 2);
        due(33, "the watch", x.blame(0), 0);
        due(33, "the sign", x.blame(1), 1);
        x.start(0, 0, 0);
        x.sea(0, 0, 0, 0, 0);
        due(32, "the start is empty", x.blamed(), 0);
        due(33, "the start is empty", x.blame(0), NONE);
    }

    private static void p33() {
        PegWatch x = still();
        due(33, "not empty", x.blame(0), STATE);
        x.sign(4, 2, 2);
        x.sign(4, 5, 5);
        due(33, "one", x.blame(0), 1);
        due(33, "behind it", x.blame(1), NONE);
        due(33, "below it", x.blame(-1), NONE);
        due(33, "far below it", x.blame(LOW), NONE);
        x.run(watchAt(x, 0, 1));
        x.sign(4, 1, 1);
        due(33, "in order of the lesser one", x.blame(0), 202);
        due(33, "then of the other one", x.blame(1), 203);
        due(33, "there are two", x.blame(2), NONE);
        due(33, "each was done", x.many(9), 7);
        x.count(1, false);
        due(33, "single ones: the watch", x.blame(0), 2);
        due(33, "single ones: the sign", x.blame(1), 3);
    }

    /** One WATCH of HELMSMAN 2, two CELLS east and a little more. */
    private static PegWatch landfall() {
        PegWatch x = still();
        int w = watchAt(x, 8, 2);
        x.set(w, 0, 2);
        x.run(w);
        return x;
    }

    private static void p34() {
        PegWatch x = landfall();
        due(34, "at (4, 2): above 16000, with bent 1 from glass 2, with bent 2 from glass 9", x.fits(4, 2), 9 * 21 + 8 * 2 + 2);
        due(34, "at (3, 2)", x.fits(3, 2), 475);
        due(34, "at (2, 2): below 16000", x.fits(2, 2), 9 * 25 + 2 * 4 + 7 * 2);
        due(34, "at (3, 3): bent to the left", x.fits(3, 3), 19 * 2);
        due(34, "at (3, 1): bent to the right", x.fits(3, 1), 19 * 2);
        due(34, "nowhere", x.fits(9, 5), 0);
        due(34, "x", x.fits(10, 0), UNKNOWN);
        due(34, "y", x.fits(0, -1), UNKNOWN);
        due(34, "done", x.many(4), 6);
        x.count(0, false);
        due(34, "a watch that does not count", x.fits(3, 1), 475);
        x.sea(3, 1, 3, 1, 0);
        due(34, "land", x.fits(3, 1), 0);
        for (int i = 8; i < 20; i++) {
            x.fits(3, 2);
        }
        due(34, "20 times", x.fits(3, 2), STATE);
        due(34, "20 times", x.fit(3, 2, 0), STATE);
        due(34, "unknown first", x.fits(10, 2), UNKNOWN);
        due(34, "done", x.many(4), 20);
        otherHelmsmen();
    }

    private static void otherHelmsmen() {
        PegWatch x = landfall();
        int w = watchAt(x, 8, 1);
        x.set(w, 0, 5);
        x.run(w);
        due(34, "one helmsman's bent is not the other's", x.fits(4, 3), 19 * 4);
        due(35, "the first of the third helmsman's", x.fit(4, 3, 0), 20);
        due(35, "the first of the sixth helmsman's", x.fit(4, 3, 2), 50);
    }

    private static void p35() {
        PegWatch x = landfall();
        due(35, "the first", x.fit(3, 3, 0), 20);
        due(35, "the second", x.fit(3, 3, 1), 21);
        due(35, "the third", x.fit(3, 3, 2), 120);
        due(35, "the last", x.fit(3, 3, 37), 1821);
        due(35, "behind it", x.fit(3, 3, 38), NONE);
        due(35, "below it", x.fit(3, 3, -1), NONE);
        due(35, "far behind it", x.fit(3, 3, HIGH), NONE);
        int[] order = {0, 1, 2, 3, 4, 10, 11, 13, 14, 20};
        for (int i = 0; i < order.length; i++) {
            due(35, "in order", x.fit(3, 2, i), order[i]);
        }
        due(35, "x", x.fit(10, 0, 0), UNKNOWN);
        due(35, "y", x.fit(0, 6, 0), UNKNOWN);
        due(35, "done", x.many(4), 17);
        x.fit(3, 2, 0);
        x.fits(3, 2);
        x.fit(3, 2, 0);
        due(35, "20 times", x.fit(3, 2, 0), STATE);
        due(35, "unknown first", x.fit(-1, 2, 0), UNKNOWN);
    }

    /** Land at (8, 2) alone, THE START at (1, 2). */
    private static PegWatch island() {
        PegWatch x = still();
        x.sea(8, 2, 8, 2, 0);
        return x;
    }

    private static void p36() {
        PegWatch x = island();
        due(36, "one CELL each", x.sights(1, 2, 8, 8, 96, 0, 2), 5);
        due(36, "just up to T", x.sights(1, 2, 8, 8, 5, 0, 2), 5);
        due(36, "not up to T", x.sights(1, 2, 8, 8, 4, 0, 2), 0);
        due(36, "half CELLS: both must be near", x.sights(1, 2, 8, 4, 96, 0, 2), 10);
        due(36, "aground at once", x.sights(1, 2, 8, 8, 96, 0, 0), 0);
        due(36, "the last half glass of day", x.sights(1, 2, 8, 8, 96, 19, 2), 5);
        due(36, "night falls: aground", x.sights(1, 2, 8, 8, 96, 20, 2), 0);
        due(36, "the day breaks", x.sights(1, 2, 8, 8, 96, 43, 2), 6);
        due(36, "the day breaks too late", x.sights(1, 2, 8, 8, 96, 41, 2), 0);
        due(36, "away", x.sights(1, 2, 24, 8, 96, 0, 2), 0);
        due(36, "slow", x.sights(1, 2, 8, 1, 96, 0, 6), 8);
        due(36, "along it", x.sights(1, 2, 16, 12, 96, 0, 7), 1);
        x.start(1, 0, 0);
        due(36, "off the chart is not near", x.sights(1, 0, 16, 1, 96, 0, 7), 0);
        x.start(0, 2, 0);
        due(36, "west of it", x.sights(0, 2, 24, 1, 96, 0, 8), 0);
        due(36, "slanting", x.sights(0, 2, 9, 12, 96, 0, 8), 1);
        x.start(1, 2, 0);
        refusedSights(x);
    }

    private static void refusedSights(PegWatch x) {
        due(36, "x", x.sights(10, 0, 99, 1, 1, 0, 0), UNKNOWN);
        due(36, "y", x.sights(0, 6, 0, 1, 1, 0, 0), UNKNOWN);
        int[][] bad = {{-1, 1, 1, 0, 0}, {32, 1, 1, 0, 0}, {0, 0, 1, 0, 0}, {0, 13, 1, 0, 0}, {0, 1, 0, 0, 0}, {0, 1, 97, 0, 0},
            {0, 1, 1, -1, 0}, {0, 1, 1, 48, 0}, {0, 1, 1, 0, -1}, {0, 1, 1, 0, 9}};
        for (int[] b : bad) {
            due(36, "outside", x.sights(0, 0, b[0], b[1], b[2], b[3], b[4]), OUTSIDE);
            due(37, "outside", x.sure(b[0], b[1], b[2], b[3], b[4]), OUTSIDE);
            if (b[0] == 0) {
                due(38, "outside", x.course(b[1], b[2], b[3], b[4]), OUTSIDE);
            }
        }
        due(36, "not in the patch", x.sights(2, 2, 0, 1, 1, 0, 0), STATE);
        due(36, "edges", x.sights(1, 2, 31, 12, 96, 47, 8), 2);
        x.sign(0, 1, 2);
        due(36, "empty", x.sights(1, 2, 0, 1, 1, 0, 0), STATE);
    }

    private static void p37() {
        PegWatch x = island();
        due(37, "one cell", x.sure(8, 8, 96, 0, 2), 5);
        x.start(1, 2, 1);
        due(37, "the greatest", x.sure(8, 8, 96, 0, 2), 6);
        due(37, "one cell goes past", x.sure(8, 8, 96, 0, 0), 0);
        due(37, "up to T", x.sure(8, 8, 6, 0, 2), 6);
        due(37, "not up to T", x.sure(8, 8, 5, 0, 2), 0);
        x.sea(4, 1, 4, 1, 0);
        due(37, "aground from one", x.sure(8, 8, 96, 0, 0), 0);
        due(37, "sighted ahead of it, the last one at the island", x.sure(8, 8, 96, 0, 1), 7);
        due(37, "aground by night", x.sure(8, 8, 96, 24, 1), 0);
        x.sign(0, 1, 2);
        due(37, "empty", x.sure(8, 8, 96, 0, 2), STATE);
        due(37, "outside first", x.sure(32, 8, 96, 0, 2), OUTSIDE);
    }

    private static void p38() {
        PegWatch x = island();
        due(38, "due east", x.course(8, 96, 0, 2), 8);
        due(38, "of like ones the least", x.course(8, 96, 0, 8), 0);
        due(38, "none by night", x.course(8, 20, 24, 2), NONE);
        due(38, "none sees it", x.course(8, 96, 0, 0), NONE);
        due(38, "done", x.many(5), 4);
        due(38, "v", x.course(0, 96, 0, 0), OUTSIDE);
        x.sign(0, 1, 2);
        due(38, "empty", x.course(8, 96, 0, 2), STATE);
        due(38, "not done", x.many(5), 4);
        x.strike();
        due(38, "sure() is not counted", x.sure(8, 8, 96, 0, 2), 5);
        for (int i = 4; i < 20; i++) {
            due(38, "again", x.course(8, 96, 0, 2), 8);
        }
        due(38, "20 times", x.course(8, 96, 0, 2), STATE);
        due(38, "outside first", x.course(8, 97, 0, 2), OUTSIDE);
        due(38, "done", x.many(5), 20);
        x = island();
        x.sea(1, 5, 1, 5, 0);
        due(38, "the sooner one", x.course(8, 96, 0, 1), 0);
        x.sea(1, 5, 1, 5, 1);
        x.sea(4, 1, 4, 1, 0);
        due(38, "the sooner one, later in order", x.course(8, 96, 0, 1), 8);
    }

    private static void p39() {
        PegWatch x = new PegWatch();
        x.chart(9, 7);
        x.sea(1, 1, 2, 3, 0);
        x.watch();
        x.watch();
        x.watch();
        x.word(1);
        x.word(2);
        x.word(3);
        x.word(4);
        x.miss(77);
        x.sign(3, 0, 0);
        x.sign(3, 0, 0);
        x.blamed();
        x.blame(0);
        x.blame(5);
        x.fits(0, 0);
        x.fit(0, 0, 0);
        x.strike();
        x.strike();
        x.course(1, 1, 0, 1);
        int[] all = {3, 0, 6, 4, 2, 1, 9, 7, 77, 3};
        for (int what = 0; what < 10; what++) {
            due(39, "many(" + what + ")", x.many(what), all[what]);
        }
        due(39, "what", x.many(10), OUTSIDE);
        due(39, "what", x.many(-1), OUTSIDE);
        x.sign(3, 0, 0);
        due(39, "rows", x.many(1), 1);
    }

    private static void p40() {
        PegWatch x = new PegWatch();
        x.chart(4, 4);
        due(40, "little", x.digest(), fold(4, 4, 50, 0, 50, 0, 50, 0, 50, 0, 50, 0, 50, 0, 50, 0, 50, 0, 50, 0, 50, 0, 50, 0,
                50, 0, 50, 0, 50, 0, 50, 0, 50, 0, 0, 0, 0, 0, 2000, 0, 0, 0, 1, 0, 0, 0));
        x.word(7);
        x.word(301);
        x.watch();
        x.peg(0, 0, 9);
        x.peg(0, 7, 31);
        x.knots(0, 0, 3);
        x.knots(0, 3, 4);
        x.set(0, 0, 5);
        x.set(0, 1, 6);
        x.set(0, 2, 2);
        x.sea(1, 0, 1, 0, 0);
        x.weed(0, 1, 0, 1, true);
        x.stream(-4, -3, 2, 1000);
        x.miss(12);
        x.start(2, 1, 1);
        x.run(0);
        x.sign(0, 3, 60);
        x.sign(3, 0, 0);
        x.count(2, false);
        long patch = x.patch(3);
        x.fits(0, 0);
        x.fits(0, 0);
        x.course(1, 1, 0, 0);
        x.count(2, true);
        x.sign(0, 0, 0);
        x.blamed();
        x.blamed();
        x.blame(0);
        x.strike();
        x.count(2, false);
        due(40, "all", x.digest(), fold(7, 301, 9, -1, -1, -1, -1, -1, -1, 31, 3, 0, 0, 4, 5, 6, 2, 4, 4, 50, 0, 0, 0, 50, 0,
                50, 0, 50, 1, 50, 0, 50, 0, 50, 0, 50, 0, 50, 0, 50, 0, 50, 0, 50, 0, 50, 0, 50, 0, 50, 0, -4, -3, 2, 1000, 12,
                2, 1, 1, 0, -1, 0, 0, 1, -1, 0, 3, 60, 1, -1, 3, 0, 0, 0, patch, 2, 1, 3));
    }

    /** The last CELLS of 20 by 20, and steps from one edge to the other. */
    private static void theGreatestChart() {
        PegWatch x = new PegWatch();
        x.chart(20, 20);
        due(18, "the last row", x.sea(0, 19, 19, 19, 3), 20);
        due(18, "the last cell", x.about(19, 19, 0), 3);
        due(18, "beside it", x.about(19, 18, 0), 50);
        due(19, "the last column", x.weed(19, 0, 19, 19, true), 20);
        due(19, "the last cell", x.about(19, 19, 1), 1);
        due(19, "beside it", x.about(18, 19, 1), 0);
        due(22, "the last cell", x.start(19, 19, 0), 1);
        due(29, "the last cell", x.has(0, 19, 19), 1);
        x.miss(0);
        x.stream(8000, 8000, 8000, 8000);
        x.start(0, 0, 0);
        for (int w = 0; w < 19; w++) {
            x.run(watchAt(x, NONE, 0));
        }
        due(28, "step by step", x.has(19, 19, 19), 1);
        due(30, "step by step", x.here(0), 1);
        x.sign(3, 0, 0);
        x.sign(0, 3, 3);
        due(28, "the last cell stays", x.patch(21), 1);
        int w = watchAt(x, 20, 12);
        x.stream(-20000, -20000, -20000, -20000);
        x.run(w);
        due(28, "far away", x.patch(22), 0);
        x.stream(0, 0, 0, 0);
        x.start(19, 19, 0);
        x.peg(w, 0, 20);
        due(15, "from edge to edge", x.way(w, 0, 0, 0), -67872);
        due(28, "eight and nine back", x.patch(22), 4);
        due(29, "nine back", x.has(22, 10, 10), 1);
        oneStepAcross();
        sailAcross();
    }

    private static void oneStepAcross() {
        for (int east = 0; east < 2; east++) {
            PegWatch x = new PegWatch();
            x.chart(20, 20);
            x.miss(20000);
            x.stream(east == 1 ? 20000 : -20000, east == 1 ? 20000 : -20000, 0, 0);
            int w = watchAt(x, east == 1 ? 8 : 24, 12);
            x.run(w);
            x.start(east == 1 ? 0 : 19, 0, 0);
            due(28, "96000 and 20000, 20000 more or less", x.patch(1), 6 * 4);
            due(29, "the nearest", x.has(1, east == 1 ? 12 : 7, 0), 1);
            due(29, "the farthest", x.has(1, east == 1 ? 17 : 2, 0), 1);
            due(29, "behind the farthest", x.has(1, east == 1 ? 18 : 1, 0), 0);
            due(29, "behind the nearest", x.has(1, east == 1 ? 11 : 8, 0), 0);
            due(31, "seen back", x.was(0, east == 1 ? 0 : 19, 0), 1);
            x.count(0, false);
            due(28, "to all but the near edge", x.patch(1), 18 * 16);
        }
    }

    private static void sailAcross() {
        PegWatch x = new PegWatch();
        x.chart(20, 20);
        x.sea(19, 19, 19, 19, 0);
        x.start(0, 19, 0);
        due(36, "18 east", x.sights(0, 19, 8, 8, 96, 0, 1), 18);
        x.start(19, 0, 0);
        due(36, "18 north", x.sights(19, 0, 0, 8, 96, 0, 1), 18);
        x.sea(19, 19, 19, 19, 1);
        x.sea(0, 0, 0, 0, 0);
        x.start(19, 0, 0);
        due(36, "18 west", x.sights(19, 0, 24, 8, 96, 0, 1), 18);
        x.start(0, 19, 0);
        due(36, "18 south", x.sights(0, 19, 16, 8, 96, 0, 1), 18);
        due(36, "far off", x.sights(0, 19, 0, 12, 96, 0, 8), 0);
        x.sea(0, 9, 0, 9, 0);
        due(36, "ten to land between", x.sights(0, 19, 16, 8, 96, 23, 0), 0);
        x.sea(0, 0, 0, 0, 1);
        due(38, "to the south", x.course(8, 96, 0, 1), 16);
        x.sea(0, 9, 0, 9, 1);
        x.sea(0, 2, 0, 2, 0);
        x.start(19, 10, 0);
        due(36, "the day breaks at the west edge", x.sights(19, 10, 24, 4, 96, 12, 8), 37);
        x.sea(0, 2, 0, 2, 1);
        x.sea(19, 2, 19, 2, 0);
        x.start(0, 10, 0);
        due(36, "the day breaks at the east edge", x.sights(0, 10, 8, 4, 96, 12, 8), 37);
    }

    /** 24 WATCHES and 16 SIGNS: every call that goes along THE LOG. */
    private static void theFullLog() {
        PegWatch x = new PegWatch();
        x.miss(0);
        for (int w = 0; w < 24; w++) {
            x.run(watchAt(x, w % 2 == 0 ? 0 : 16, 1));
            x.set(w, 0, w % 6);
        }
        for (int i = 0; i < 16; i++) {
            x.sign(4, 0, 17 - i);
        }
        due(28, "there and back", x.patch(40), 1);
        due(30, "there and back", x.here(40), 1);
        due(30, "there and back", x.here(23), 1);
        due(31, "one up", x.was(23, 0, 1), 1);
        due(32, "not empty", x.blamed(), STATE);
        due(34, "by any", x.fits(0, 0), 475);
        due(34, "by a wrong glass, or by one who falls short on the way back", x.fits(0, 2), 18 * 25 + 3 * 4);
        x.strike();
        x.sign(4, 7, 7);
        due(32, "the last", x.blamed(), 1);
        due(33, "the last", x.blame(0), 39);
        x.strike();
        x.strike();
        x.sign(4, 7, 7);
        x.sign(4, 6, 6);
        due(32, "the last two", x.blamed(), 1);
        due(33, "the last two", x.blame(0), 3939);
        due(36, "empty", x.sights(0, 0, 0, 1, 1, 0, 0), STATE);
    }

    /** Every refusal, and then the digest as it was. */
    private static void refusalsChangeNothing() {
        PegWatch x = island();
        x.watch();
        x.run(0);
        long was = x.digest();
        x.name(40);
        x.read(0);
        x.turns(40, 0);
        x.go(40, 0);
        x.go(0, 5);
        x.word(1000);
        x.told();
        x.peg(0, 9, 0);
        x.peg(0, 0, 40);
        x.knots(0, 9, 0);
        x.knots(0, 0, 40);
        x.set(0, 9, 0);
        x.set(0, 0, 40);
        x.miss(-1);
        x.chart(9, 9);
        x.chart(0, 9);
        x.sea(0, 0, 99, 0, 0);
        x.sea(1, 0, 0, 0, 0);
        x.weed(0, 0, 99, 0, true);
        x.weed(1, 0, 0, 0, true);
        x.stream(1, 0, 0, 0);
        x.start(99, 0, 0);
        x.start(0, 0, 21);
        x.run(0);
        x.run(1);
        x.sign(9, 0, 0);
        x.count(1, false);
        x.blamed();
        x.blame(0);
        x.fits(-1, 0);
        x.fit(0, 99, 0);
        x.course(99, 1, 0, 0);
        due(0, "the digest", x.digest(), was);
    }
}
