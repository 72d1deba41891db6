import java.io.IOException;
import java.lang.reflect.InvocationTargetException;
import java.lang.reflect.Method;
import java.lang.reflect.Modifier;
import java.nio.file.Files;
import java.nio.file.Path;
import java.util.ArrayList;
import java.util.List;
import java.util.Map;
import java.util.TreeMap;
import java.util.function.LongSupplier;

/**
 * The document sentence by sentence: says() quotes one, and what follows it tests that sentence at its
 * boundaries. At the end the quotes are held against ../shared/DOC.md: none may be invented, and no
 * sentence of the Terms and the promises may be without a test.
 */
public final class PegWatchEdges {
    private static final int NONE = -1;
    private static final int UNKNOWN = -101;
    private static final int OUTSIDE = -102;
    private static final int STATE = -103;
    private static final int FULL = -104;
    private static final int LOW = Integer.MIN_VALUE;
    private static final int HIGH = Integer.MAX_VALUE;
    private static final int TERMS = 0;
    private static final int PROMISES = 40;
    private static final int LOST = NONE;

    private static final String[] NAMES = ("N NbE NNE NEbN NE NEbE ENE EbN E EbS ESE SEbE SE SEbS SSE SbE S SbW SSW SWbS SW "
            + "SWbW WSW WbS W WbN WNW NWbW NW NWbN NNW NbW").split(" ");
    private static final int[] EAST = {0, 195, 383, 556, 707, 831, 924, 981, 1000, 981, 924, 831, 707, 556, 383, 195, 0, -195,
        -383, -556, -707, -831, -924, -981, -1000, -981, -924, -831, -707, -556, -383, -195};

    private static final Map<Integer, List<String>> QUOTES = new TreeMap<>();
    private static String sentence = "";
    private static int wrong = 0;

    public static void main(String[] args) throws Exception {
        termsOfHeadings();
        termsOfWords();
        termsOfTheBoard();
        termsOfTheChart();
        termsOfThePatch();
        termsOfTheLog();
        termsOfWhatIsWrong();
        termsOfLandfall();
        termsOfCourses();
        termsOfRefusals();
        promisesOfHeadings();
        promisesOfTheBoard();
        promisesOfTheChart();
        promisesOfTheLog();
        promisesOfWhatIsWrong();
        promisesOfLandfall();
        promisesOfCourses();
        promisesOfWhatIsTold();
        noCallThrows();
        holdQuotesAgainstTheDocument();
        System.out.println(wrong == 0 ? "all answers are as due" : wrong + " answers are not as due");
        if (wrong != 0) {
            System.exit(1);
        }
    }

    // ---- what the tests share

    /** What is tested from here on: a sentence of the Terms, or of a promise. */
    private static void says(int promise, String quote) {
        sentence = (promise == TERMS ? "terms" : "promise " + promise) + ", \"" + quote + "\"";
        QUOTES.computeIfAbsent(promise, p -> new ArrayList<>()).add(quote);
    }

    private static void fail(String what) {
        wrong++;
        System.out.println(sentence + ": " + what);
    }

    private static void due(String what, long got, long want) {
        if (got != want) {
            fail(what + " answered " + got + ", due is " + want);
        }
    }

    private static void dueText(String what, String got, String want) {
        if (!got.equals(want)) {
            fail(what + " answered " + got + ", due is " + want);
        }
    }

    /** The call is refused, and has changed nothing that the digest tells: that is all there is. */
    private static void refused(PegWatch x, String what, long want, LongSupplier call) {
        long was = x.digest();
        due(what, call.getAsLong(), want);
        due("the digest behind " + what, x.digest(), was);
    }

    private static int figures(String letters) {
        int told = 0;
        for (char letter : letters.toCharArray()) {
            told = told * 6 + "0NESWb".indexOf(letter);
        }
        return told;
    }

    private static PegWatch said(int... numbers) {
        PegWatch x = new PegWatch();
        for (int one : numbers) {
            x.word(one);
        }
        return x;
    }

    private static int toldBy(int... numbers) {
        return said(numbers).told();
    }

    private static int faultOf(int... numbers) {
        return said(numbers).fault();
    }

    /** A WATCH with all PEGS at a POINT (or LOST), all KNOTS alike. */
    private static int watchAt(PegWatch x, int point, int knots) {
        int w = x.watch();
        for (int k = 0; k < 8; k++) {
            x.peg(w, k, point);
        }
        for (int k = 0; k < 4; k++) {
            x.knots(w, k, knots);
        }
        return w;
    }

    /** A WATCH that makes nothing as long as it COUNTS, and spreads 8000 to each side if it does not. */
    private static int watchInTheWind(PegWatch x) {
        int w = x.watch();
        x.peg(w, 0, 0);
        x.peg(w, 1, 0);
        x.knots(w, 0, 4);
        x.set(w, 2, 1);
        return w;
    }

    /** A CHART without MISS, THE START at one CELL. */
    private static PegWatch still(int w, int h, int x0, int y0) {
        PegWatch x = new PegWatch();
        x.chart(w, h);
        x.miss(0);
        x.start(x0, y0, 0);
        return x;
    }

    /** A CHART with THE START everywhere. */
    private static PegWatch anywhere(int w, int h) {
        PegWatch x = new PegWatch();
        x.chart(w, h);
        x.start(0, 0, 20);
        return x;
    }

    private static void fillLog(PegWatch x) {
        while (x.many(1) < 40) {
            x.sign(1, 0, 0);
        }
    }

    private static long fold(long h, long... numbers) {
        long folded = h;
        for (long one : numbers) {
            folded = 31 * folded + one;
        }
        return folded;
    }

    // ---- Terms: headings

    private static void termsOfHeadings() {
        PegWatch x = new PegWatch();
        says(TERMS, "POINTS 0 to 31 go round from north by east.");
        for (int p = 0; p < 32; p++) {
            due("one on from " + p, x.turns(p, (p + 1) % 32), 1);
        }
        due("north", x.go(0, 1), 1000);
        due("east", x.go(8, 0), 1000);
        due("south", x.go(16, 1), -1000);
        due("west", x.go(24, 0), -1000);

        says(TERMS, "NAMES of letters N, E, S, W, b: of 0 to 31 " + String.join(", ", NAMES)
                + "; told as figures of base 6, the first letter highest: N 1, E 2, S 3, W 4, b 5.");
        for (int p = 0; p < 32; p++) {
            due("name(" + p + ")", x.name(p), figures(NAMES[p]));
        }
        due("the least", x.name(0), 1);
        due("the greatest", x.name(21), 826);

        says(TERMS, "TURNS from p to q: how many POINTS one goes on from p to q round by east (0 to 31);");
        due("the least", x.turns(5, 5), 0);
        due("the greatest", x.turns(0, 31), 31);
        due("the greatest, round", x.turns(1, 0), 31);
        due("round", x.turns(31, 0), 1);
        due("half round", x.turns(0, 16), 16);
        due("half round, over north", x.turns(16, 0), 16);

        says(TERMS, "the ANGLE of both: TURNS, or 32 less TURNS, whichever is less.");
        due("5 to the right, over north", x.leeway(4, 31, 1), NONE);
        due("6 to the right, over north", x.leeway(5, 31, 1), 2);
        due("5 to the left, over north", x.leeway(29, 2, 1), NONE);
        due("6 to the left, over north", x.leeway(28, 2, 1), 2);
        due("none", x.leeway(7, 7, 1), NONE);
        due("16", x.leeway(23, 7, 1), 0);
        due("one TURN", x.leeway(0, 31, 2), NONE);
        due("31 TURNS", x.leeway(31, 0, 2), NONE);

        says(TERMS, "EAST, NORTH of a POINT, in thousandths: with q POINTS from the nearest of N, S (0 to 8): NORTH is 1000, 981,"
                + " 924, 831, 707, 556, 383, 195, 0 for q 0 to 8, below 0 from that of 9 to 23;");
        for (int p = 0; p < 32; p++) {
            due("NORTH of " + p, x.go(p, 1), EAST[(p + 8) % 32]);
        }
        due("the last above 0", x.go(7, 1), 195);
        due("0", x.go(8, 1), 0);
        due("the first below 0", x.go(9, 1), -195);
        due("the last below 0", x.go(23, 1), -195);
        due("0 again", x.go(24, 1), 0);
        due("the first above 0", x.go(25, 1), 195);

        says(TERMS, "EAST likewise by POINTS from E, W, below 0 from 17 to 31.");
        for (int p = 0; p < 32; p++) {
            due("EAST of " + p, x.go(p, 0), EAST[p]);
        }
        due("the last above 0", x.go(15, 0), 195);
        due("0", x.go(16, 0), 0);
        due("the first below 0", x.go(17, 0), -195);
        due("the last below 0", x.go(31, 0), -195);
        due("0 again", x.go(0, 0), 0);
        due("the first above 0", x.go(1, 0), 195);
    }

    private static void termsOfWords() {
        says(TERMS, "PILOTS' WORDS: a row of up to 24 numbers:");
        PegWatch x = new PegWatch();
        for (int i = 1; i <= 24; i++) {
            due("number " + i, x.word(300), i);
        }
        due("one too many", x.word(300), FULL);

        says(TERMS, "0 to 31 that POINT;");
        due("0", toldBy(0), 0);
        due("31", toldBy(31), 31);
        due("32 is none", faultOf(32), 0);

        says(TERMS, "100 and k (k 1 to 16) \"k points to the right of\" what follows;");
        due("one", toldBy(101, 7), 8);
        due("one, round", toldBy(101, 31), 0);
        due("16", toldBy(116, 4), 20);
        due("16, round", toldBy(116, 20), 4);
        due("99", faultOf(99, 4), 0);
        due("k 0", faultOf(100, 4), 0);
        due("k 17", faultOf(117, 4), 0);

        says(TERMS, "200 and k \"to the left of\";");
        due("one", toldBy(201, 7), 6);
        due("one, round", toldBy(201, 0), 31);
        due("16", toldBy(216, 20), 4);
        due("16, round", toldBy(216, 4), 20);
        due("199", faultOf(199, 4), 0);
        due("k 0", faultOf(200, 4), 0);
        due("k 17", faultOf(217, 4), 0);

        says(TERMS, "300 \"opposite to\";");
        due("on", toldBy(300, 15), 31);
        due("round", toldBy(300, 16), 0);
        due("299 is none", faultOf(299, 4), 0);

        halfway();
        faults();
    }

    private static void halfway() {
        says(TERMS, "301 \"halfway from .. to ..\", the two that follow: from the first half the TURNS to the second on,"
                + " rounded down.");
        due("no TURNS", toldBy(301, 5, 5), 5);
        due("one TURN", toldBy(301, 5, 6), 5);
        due("one TURN, round", toldBy(301, 31, 0), 31);
        due("two TURNS, round", toldBy(301, 31, 1), 0);
        due("31 TURNS", toldBy(301, 0, 31), 15);
        due("31 TURNS, round", toldBy(301, 20, 19), 3);
        due("opposite", toldBy(301, 0, 16), 8);
        due("opposite, round", toldBy(301, 16, 0), 24);
        due("22 TURNS", toldBy(301, 20, 10), 31);
        due("the first is a saying", toldBy(301, 101, 31, 4), 2);
        due("the second is a saying", toldBy(301, 0, 201, 9), 4);
        due("both are such", toldBy(301, 301, 0, 8, 301, 8, 16), 8);
        due("302 is none", faultOf(302, 4, 5), 0);
    }

    private static void faults() {
        says(TERMS, "The row HOLDS, if it is one saying from end to end.");
        due("a POINT", faultOf(9), NONE);
        due("no words", toldBy(), STATE);
        due("one too few", toldBy(301, 9), STATE);
        due("one too many", toldBy(9, 9), STATE);
        int[] row = new int[24];
        java.util.Arrays.fill(row, 300);
        row[23] = 9;
        due("24 numbers", faultOf(row), NONE);
        due("24 numbers", toldBy(row), 25);
        row[0] = 300;
        for (int i = 1; i < 24; i++) {
            row[i] = i < 12 ? 301 : 0;
        }
        row[23] = 31;
        due("eleven of two each", faultOf(row), NONE);
        due("eleven of two each", toldBy(row), 31);

        says(TERMS, "Its FAULT: the first place at which a number is none of these, or a saying is whole and something follows;");
        due("at the front", faultOf(32, 500), 0);
        due("the first of two", faultOf(300, 117, 500), 1);
        due("in the second of two", faultOf(301, 4, 217), 2);
        due("at the end of 24", faultOf(withLast(24, 300, 99)), 23);
        due("something follows", faultOf(4, 4), 1);
        due("what follows is no word", faultOf(4, 500), 1);
        due("the first that follows", faultOf(301, 4, 5, 6, 7), 3);
        due("no word ahead of what follows", faultOf(301, 500, 4, 5), 1);

        says(TERMS, "else, if it ends ahead of its end, its length;");
        due("no words", faultOf(), 0);
        due("one", faultOf(116), 1);
        due("two", faultOf(301, 4), 2);
        due("24", faultOf(withLast(24, 300, 300)), 24);
        due("24 of which each wants two", faultOf(withLast(24, 301, 0)), 24);

        says(TERMS, "NONE, if it holds.");
        due("0", faultOf(0), NONE);
        due("31", faultOf(31), NONE);
        due("24", faultOf(withLast(24, 216, 31)), NONE);
    }

    private static int[] withLast(int length, int all, int last) {
        int[] row = new int[length];
        java.util.Arrays.fill(row, all);
        row[length - 1] = last;
        return row;
    }

    // ---- Terms: the board

    private static void termsOfTheBoard() {
        whatAWatchHas();
        headingOfAPeg();
        leewayOfAPeg();
        wayAndSpread();
    }

    private static void whatAWatchHas() {
        says(TERMS, "THE BOARD has WATCHES (24 at most, in order).");
        PegWatch x = new PegWatch();
        for (int w = 0; w < 24; w++) {
            due("watch", x.watch(), w);
        }
        due("one too many", x.watch(), FULL);
        due("the last", x.peg(23, 0, 0), LOST);
        due("behind it", x.peg(24, 0, 0), UNKNOWN);

        says(TERMS, "A WATCH has eight PEGS (0 to 7), each a POINT or LOST;");
        due("the first", x.peg(0, 0, 0), LOST);
        due("the last", x.peg(0, 7, 31), LOST);
        due("LOST again", x.peg(0, 7, LOST), 31);
        due("is LOST", x.peg(0, 7, LOST), LOST);
        due("ahead of the first", x.peg(0, -1, 0), UNKNOWN);
        due("behind the last", x.peg(0, 8, 0), UNKNOWN);

        says(TERMS, "four KNOTS (0 to 12), each of two PEGS (0 and 1, 2 and 3, ..);");
        due("the least and the greatest", x.knots(0, 3, 12), 0);
        due("the least", x.knots(0, 3, 0), 12);
        due("above", x.knots(0, 3, 13), OUTSIDE);
        due("below", x.knots(0, 3, -1), OUTSIDE);
        for (int k = 0; k < 8; k++) {
            knotsOfPeg(k);
        }

        says(TERMS, "a HELMSMAN 0 to 5;");
        due("the greatest", x.set(0, 0, 5), 0);
        due("above", x.set(0, 0, 6), OUTSIDE);
        due("below", x.set(0, 0, -1), OUTSIDE);
        due("the least", x.set(0, 0, 0), 5);

        says(TERMS, "the WIND, a POINT from which it blows;");
        due("the greatest", x.set(0, 1, 31), 0);
        due("above", x.set(0, 1, 32), OUTSIDE);
        due("below", x.set(0, 1, -1), OUTSIDE);
        due("the least", x.set(0, 1, 0), 31);
        PegWatch y = new PegWatch();
        int w = watchAt(y, 0, 1);
        y.set(w, 2, 1);
        due("from the north, to the north", y.way(w, 0, 0, 1), 0);
        y.set(w, 1, 16);
        due("from the south, to the north", y.way(w, 0, 0, 1), 8000);

        says(TERMS, "SAIL 0 to 2.");
        due("the greatest", x.set(0, 2, 2), 0);
        due("above", x.set(0, 2, 3), OUTSIDE);
        due("below", x.set(0, 2, -1), OUTSIDE);
        due("the least", x.set(0, 2, 0), 2);
    }

    private static void knotsOfPeg(int k) {
        PegWatch x = new PegWatch();
        x.watch();
        for (int j = 0; j < 4; j++) {
            x.knots(0, j, j + 1);
        }
        x.peg(0, k, 0);
        due("PEG " + k, x.way(0, 0, 0, 1), 1000 * (k / 2 + 1));
        due("without PEG " + k, x.way(0, 0, 0, 2), 2000 + 1000 * (20 - (k / 2 + 1)));
    }

    private static void headingOfAPeg() {
        says(TERMS, "What a PEG makes, by a GLASS g (-9 to 9) and a BENT b (-2 to 2) of its HELMSMAN: the heading is its POINT,"
                + " b POINTS more to the right.");
        int[][] cases = {{31, 1, 0}, {31, 2, 1}, {30, 2, 0}, {0, -1, 31}, {0, -2, 30}, {1, -2, 31}, {8, 0, 8}, {8, 2, 10}, {8, -2, 6}};
        for (int[] c : cases) {
            PegWatch x = new PegWatch();
            watchAt(x, c[0], 1);
            due(c[0] + " bent by " + c[1] + ", east", x.way(0, 0, c[1], 0), 8 * EAST[c[2]]);
            due(c[0] + " bent by " + c[1] + ", north", x.way(0, 0, c[1], 1), 8 * EAST[(c[2] + 8) % 32]);
        }
        PegWatch x = new PegWatch();
        watchAt(x, 8, 1);
        due("the least GLASS", x.way(0, -9, 0, 0), 7280);
        due("the greatest GLASS", x.way(0, 9, 0, 0), 8720);
        due("a lesser one", x.way(0, -10, 0, 0), -10000002);
        due("a greater one", x.way(0, 10, 0, 0), -10000002);
        due("a lesser BENT", x.way(0, 0, -3, 0), -10000002);
        due("a greater BENT", x.way(0, 0, 3, 0), -10000002);
    }

    private static void leewayOfAPeg() {
        says(TERMS, "SAIL 0: as it is.");
        PegWatch x = new PegWatch();
        watchAt(x, 4, 1);
        x.set(0, 1, 4);
        due("into the WIND, east", x.way(0, 0, 0, 0), 8 * 707);
        due("into the WIND, north", x.way(0, 0, 0, 1), 8 * 707);
        x.set(0, 1, 10);
        due("close to it", x.way(0, 0, 0, 0), 8 * 707);

        says(TERMS, "Else by the ANGLE of heading and WIND: below 6: nothing is made;");
        madeAtAngles(0, 5, -1, -1);
        x.set(0, 1, 9);
        x.set(0, 2, 1);
        due("nothing, and it SPREADS nothing", x.way(0, 0, 0, 2), 2000);
        due("bent off by one: two farther", x.way(0, 0, -1, 0), 8 * 195);
        x.set(0, 1, 10);
        due("bent on by one", x.way(0, 0, 1, 0), 0);

        says(TERMS, "6, 7: the heading is SAIL less 3, without its sign, POINTS farther from the WIND (1: two, 2: one);");
        madeAtAngles(6, 7, 2, 1);

        says(TERMS, "8 to 11: 2 less SAIL;");
        madeAtAngles(8, 11, 1, 0);

        says(TERMS, "12 and more: none.");
        madeAtAngles(12, 16, 0, 0);

        says(TERMS, "(Farther: to the right, if TURNS from WIND to heading are below 16, else to the left.)");
        due("11 TURNS", madeGood(11, 0, 1, 0), EAST[12]);
        due("21 TURNS", madeGood(21, 0, 1, 0), EAST[20]);
        due("to the right, over north", madeGood(31, 24, 1, 0), EAST[1]);
        due("to the left, over north", madeGood(1, 8, 1, 0), EAST[31]);

        says(TERMS, "Then KNOTS times EAST, NORTH of that: PARTS.");
        PegWatch y = new PegWatch();
        watchAt(y, 3, 0);
        due("no KNOTS, east", y.way(0, 0, 0, 0), 0);
        for (int k = 0; k < 4; k++) {
            y.knots(0, k, 12);
        }
        due("the most KNOTS, east", y.way(0, 0, 0, 0), 96 * 556);
        due("the most KNOTS, north", y.way(0, 0, 0, 1), 96 * 831);

        says(TERMS, "A LOST PEG makes no way, but SPREADS by KNOTS times 1000.");
        y.peg(0, 0, LOST);
        due("one LOST, east", y.way(0, 0, 0, 0), 84 * 556);
        due("one LOST, spread", y.way(0, 0, 0, 2), 12000 + 2000);
        for (int k = 1; k < 8; k++) {
            y.peg(0, k, LOST);
        }
        due("all LOST, east", y.way(0, 0, 0, 0), 0);
        due("all LOST, north", y.way(0, 9, 2, 1), 0);
        due("all LOST, spread", y.way(0, 0, 0, 2), 96000 + 2000);
        y.set(0, 2, 1);
        due("SAIL and WIND do not matter to them", y.way(0, 0, 0, 2), 96000 + 2000);
    }

    /** On both sides of the WIND, how many POINTS farther SAIL 1 and SAIL 2 are due to make it (-1: nothing is made). */
    private static void madeAtAngles(int least, int most, int first, int second) {
        for (int angle = least; angle <= most; angle++) {
            for (int sail = 1; sail <= 2; sail++) {
                int farther = sail == 1 ? first : second;
                for (int wind : new int[] {0, 5, 31}) {
                    String what = "ANGLE " + angle + ", SAIL " + sail + ", WIND " + wind;
                    int right = (wind + angle) % 32;
                    int left = (wind + 32 - angle) % 32;
                    for (int side = 0; side < 2; side++) {
                        int made = (right + farther + 8 * side) % 32;
                        due(what + " right", madeGood(right, wind, sail, side), farther < 0 ? 0 : EAST[made]);
                        made = (left + 32 - farther + 8 * side) % 32;
                        due(what + " left", madeGood(left, wind, sail, side), farther < 0 ? 0 : EAST[made]);
                    }
                }
            }
        }
    }

    /** What one PEG makes with one KNOT. */
    private static int madeGood(int point, int wind, int sail, int side) {
        PegWatch x = new PegWatch();
        x.watch();
        x.peg(0, 0, point);
        x.knots(0, 0, 1);
        x.set(0, 1, wind);
        x.set(0, 2, sail);
        return x.way(0, 0, 0, side);
    }

    private static void wayAndSpread() {
        says(TERMS, "THE WAY of a WATCH: its PARTS together, times (100 and g) by 100, rounded down, to the east, to the north;");
        int[][] cases = {{1, 1, 196}, {31, 1, -197}, {1, -1, 193}, {31, -1, -194}, {1, 9, 212}, {31, 9, -213}, {1, -9, 177},
            {31, -9, -178}, {1, 0, 195}, {31, 0, -195}, {8, 1, 1010}, {24, 1, -1010}};
        for (int[] c : cases) {
            PegWatch x = new PegWatch();
            x.watch();
            x.peg(0, 0, c[0]);
            x.knots(0, 0, 1);
            due(c[0] + " by " + c[1] + ", east", x.way(0, c[1], 0, 0), c[2]);
            x.peg(0, 0, (c[0] + 24) % 32);
            due(c[0] + " by " + c[1] + ", north", x.way(0, c[1], 0, 1), c[2]);
        }
        PegWatch x = new PegWatch();
        x.watch();
        x.peg(0, 0, 1);
        x.peg(0, 1, 1);
        x.knots(0, 0, 1);
        due("rounded once", x.way(0, 1, 0, 0), 393);
        x.peg(0, 1, 17);
        due("there and back", x.way(0, 9, 0, 0), 0);
        int far = watchAt(x, 8, 12);
        due("the most", x.way(far, 9, 0, 0), 104640);
        due("the most, slow", x.way(far, -9, 0, 0), 87360);
        int back = watchAt(x, 24, 12);
        due("the least", x.way(back, 9, 0, 0), -104640);

        says(TERMS, "THE SPREAD: that of LOST PEGS together, and MISS (0 to 20000; 2000 at first) more.");
        due("none LOST", x.way(far, 0, 0, 2), 2000);
        x.peg(far, 0, LOST);
        x.peg(far, 7, LOST);
        due("two LOST", x.way(far, 0, 0, 2), 26000);
        due("by a GLASS and a BENT", x.way(far, 9, -2, 2), 26000);
        due("2000 at first", x.miss(20000), 2000);
        due("the greatest MISS", x.way(far, 0, 0, 2), 44000);
        due("above", x.miss(20001), OUTSIDE);
        due("below", x.miss(-1), OUTSIDE);
        due("the least MISS", x.miss(0), 20000);
        due("no MISS", x.way(far, 0, 0, 2), 24000);
        due("no MISS, none LOST", x.way(back, 0, 0, 2), 0);
    }

    // ---- Terms: the chart

    private static void termsOfTheChart() {
        says(TERMS, "THE CHART is of w times h CELLS (4 to 20 each), x to the east, y to the north, each with a DEPTH 0 (land) to 99"
                + " (50 at first), with WEED or not.");
        PegWatch x = new PegWatch();
        due("the least", x.chart(4, 4), 16);
        due("the last CELL of it", x.about(3, 3, 0), 50);
        due("behind it", x.about(4, 3, 0), UNKNOWN);
        due("above it", x.about(3, 4, 0), UNKNOWN);
        due("the greatest", x.chart(20, 20), 400);
        due("the last CELL of it", x.about(19, 19, 0), 50);
        due("behind it", x.about(20, 19, 0), UNKNOWN);
        due("wide and low", x.chart(20, 4), 80);
        due("narrow and high", x.chart(4, 20), 80);
        due("too narrow", x.chart(3, 20), OUTSIDE);
        due("too low", x.chart(20, 3), OUTSIDE);
        due("too wide", x.chart(21, 4), OUTSIDE);
        due("too high", x.chart(4, 21), OUTSIDE);
        due("land", x.sea(0, 0, 0, 0, 0), 1);
        due("land", x.many(2), 1);
        due("the least that is no land", x.sea(0, 0, 0, 0, 1), 1);
        due("no land", x.many(2), 0);
        due("the greatest", x.sea(3, 19, 3, 19, 99), 1);
        due("the greatest", x.about(3, 19, 0), 99);
        due("above", x.sea(0, 0, 0, 0, 100), OUTSIDE);
        due("below", x.sea(0, 0, 0, 0, -1), OUTSIDE);
        due("no WEED", x.about(3, 19, 1), 0);
        x.weed(3, 19, 3, 19, true);
        due("WEED", x.about(3, 19, 1), 1);
        PegWatch y = still(5, 5, 2, 2);
        y.run(y.watch());
        y.stream(8000, 8000, 0, 0);
        due("to the east", y.has(1, 3, 2), 1);
        y.stream(0, 0, 8000, 8000);
        due("to the north", y.has(1, 2, 3), 1);

        says(TERMS, "A CELL is 8000 PARTS wide.");
        dueText("7999", reached(0, 7999, 7999, 0, 0), "0 to 1, 0 to 0");
        dueText("8000", reached(0, 8000, 8000, 0, 0), "1 to 1, 0 to 0");
        dueText("8001", reached(0, 8001, 8001, 0, 0), "1 to 2, 0 to 0");

        says(TERMS, "NEAR by r (0 to 8): there is a land CELL whose x and y both differ by at most r.");
        PegWatch z = new PegWatch();
        z.chart(20, 20);
        due("no land", z.about(10, 10, 2), NONE);
        z.sea(10, 10, 10, 10, 0);
        int[][] cases = {{10, 10, 0}, {11, 10, 1}, {9, 9, 1}, {18, 10, 8}, {19, 10, NONE}, {2, 10, 8}, {1, 10, NONE}, {10, 18, 8},
            {10, 19, NONE}, {10, 2, 8}, {10, 1, NONE}, {18, 18, 8}, {2, 2, 8}, {19, 18, NONE}, {18, 1, NONE}, {12, 15, 5}};
        for (int[] c : cases) {
            due("(" + c[0] + ", " + c[1] + ")", z.about(c[0], c[1], 2), c[2]);
        }
        due("by 9 is none", z.sign(2, 9, 0), OUTSIDE);
        due("below 0 is none", z.sign(2, -1, 0), OUTSIDE);
        nearDoesNotGoRound();

        says(TERMS, "THE STREAM of all of it: from e1 to e2 PARTS to the east, from n1 to n2 to the north in each WATCH (-20000 to"
                + " 20000; 0 at first).");
        PegWatch s = still(10, 10, 5, 5);
        s.run(s.watch());
        s.run(s.watch());
        due("0 at first", s.has(2, 5, 5), 1);
        due("0 at first", s.patch(2), 1);
        s.stream(8000, 8000, -8000, -8000);
        due("in each WATCH", s.has(2, 7, 3), 1);
        due("in each WATCH", s.patch(2), 1);
        due("the least and the greatest", s.stream(-20000, 20000, -20000, 20000), 1);
        due("below", s.stream(-20001, 0, 0, 0), OUTSIDE);
        due("above", s.stream(0, 20001, 0, 0), OUTSIDE);
    }

    private static void nearDoesNotGoRound() {
        PegWatch x = new PegWatch();
        x.chart(20, 20);
        x.sea(19, 0, 19, 0, 0);
        due("the CELL above at the other edge", x.about(0, 1, 2), NONE);
        due("the other edge", x.about(0, 0, 2), NONE);
        due("the edge above", x.about(19, 19, 2), NONE);
        due("the corner", x.about(11, 8, 2), 8);
        x.start(0, 0, 20);
        x.sign(2, 8, 0);
        due("by 8 of the corner", x.patch(1), 80);
    }

    /**
     * From (4, 4) of 9 by 9 by a WATCH without way, "west to east, south to north": of those where she
     * may be, which must be all of that square.
     */
    private static String reached(int miss, int e1, int e2, int n1, int n2) {
        PegWatch x = still(9, 9, 4, 4);
        x.miss(miss);
        x.stream(e1, e2, n1, n2);
        x.run(x.watch());
        int west = 99;
        int east = -99;
        int south = 99;
        int north = -99;
        for (int cell = 0; cell < 81; cell++) {
            int i = cell % 9;
            int k = cell / 9;
            if (x.has(1, i, k) == 1) {
                west = Math.min(west, i - 4);
                east = Math.max(east, i - 4);
                south = Math.min(south, k - 4);
                north = Math.max(north, k - 4);
            }
        }
        boolean whole = x.patch(1) == (east - west + 1) * (north - south + 1);
        return west + " to " + east + ", " + south + " to " + north + (whole ? "" : " with holes");
    }

    // ---- Terms: the patch

    private static void termsOfThePatch() {
        says(TERMS, "A PATCH is a set of CELLS that are no land.");
        PegWatch x = anywhere(4, 4);
        x.sea(0, 0, 3, 2, 0);
        due("land is left out", x.patch(0), 4);
        x.sea(0, 3, 3, 3, 0);
        due("all is land", x.patch(0), 0);
        x.sea(3, 3, 3, 3, 1);
        due("DEPTH 1 is no land", x.patch(0), 1);
        x.sign(0, 0, 99);
        due("a SIGN of all DEPTHS brings no land", x.patch(1), 1);

        says(TERMS, "A WATCH takes it on: with E, N THE WAY, S THE SPREAD: from each CELL (x, y) to all (x and i, y and k) of THE"
                + " CHART that are no land, for i from (E and e1 less S) by 8000, rounded down, to (E and e2 and S) by 8000,"
                + " rounded up, k likewise by N, n1, n2.");
        howFarAWatchTakes();
        waysOfAWatch();
        atTheEdgesOfTheChart();
        whatSignsLetStay();
    }

    private static void howFarAWatchTakes() {
        int[][] cases = {{0, 0, 0, 0, 0}, {0, 1, 1, 0, 1}, {0, -1, -1, -1, 0}, {0, -8000, -8000, -1, -1}, {0, -8001, -8001, -2, -1},
            {0, -7999, -7999, -1, 0}, {0, 0, 1, 0, 1}, {0, -1, 0, -1, 0}, {0, 20000, 20000, 2, 3}, {0, -20000, -20000, -3, -2},
            {0, -20000, 20000, -3, 3}, {1, 0, 0, -1, 1}, {8000, 0, 0, -1, 1}, {8001, 0, 0, -2, 2}, {7999, 0, 0, -1, 1},
            {20000, 0, 0, -3, 3}, {8000, 8000, 8000, 0, 2}, {8000, 8000, 8001, 0, 3}, {8000, 7999, 8000, -1, 2},
            {16000, -16000, 0, -4, 2}};
        for (int[] c : cases) {
            String span = c[3] + " to " + c[4];
            int side = c[0] % 8000 == 0 ? c[0] / 8000 : c[0] / 8000 + 1;
            String missed = -side + " to " + side;
            String what = c[1] + " to " + c[2] + " by MISS " + c[0];
            dueText(what + " to the east", reached(c[0], c[1], c[2], 0, 0), span + ", " + missed);
            dueText(what + " to the north", reached(c[0], 0, 0, c[1], c[2]), missed + ", " + span);
        }
    }

    private static void waysOfAWatch() {
        PegWatch x = still(12, 12, 6, 6);
        int w = watchAt(x, 20, 3);
        x.run(w);
        due("SW, 16968 each: two and three back", x.patch(1), 4);
        due("the nearest", x.has(1, 4, 4), 1);
        due("the farthest", x.has(1, 3, 3), 1);
        x.peg(w, 0, LOST);
        due("one LOST: 14847, 3000 more or less: one to three back", x.patch(1), 9);
        due("the nearest by it", x.has(1, 5, 5), 1);
        x.miss(4000);
        due("and MISS: 14847, 7000 more or less: none to three back", x.patch(1), 16);
        due("the farthest by it", x.has(1, 3, 3), 1);
        due("itself by it", x.has(1, 6, 6), 1);
        x.sea(5, 5, 5, 5, 0);
        due("less land", x.patch(1), 15);
        due("land", x.has(1, 5, 5), 0);
        due("behind land", x.has(1, 4, 4), 1);
        PegWatch y = anywhere(4, 4);
        y.miss(0);
        y.run(watchAt(y, 8, 1));
        due("from each CELL", y.patch(1), 12);
    }

    private static void atTheEdgesOfTheChart() {
        int[][] cases = {{19, 7, 8000, 8000, 0, 0, 0}, {19, 7, 0, 8000, 0, 0, 1}, {0, 7, -8000, -8000, 0, 0, 0}, {0, 7, -8000, 0, 0, 0, 1},
            {7, 19, 0, 0, 8000, 8000, 0}, {7, 19, 0, 0, 0, 8000, 1}, {7, 0, 0, 0, -8000, -8000, 0}, {7, 0, 0, 0, -8000, 0, 1},
            {19, 19, -20000, 20000, -20000, 20000, 16}, {0, 0, -20000, 20000, -20000, 20000, 16}, {18, 1, 8000, 8000, -8000, -8000, 1}};
        for (int[] c : cases) {
            PegWatch x = still(20, 20, c[0], c[1]);
            x.stream(c[2], c[3], c[4], c[5]);
            x.run(x.watch());
            due("from (" + c[0] + ", " + c[1] + ") by " + c[2] + ", " + c[3] + ", " + c[4] + ", " + c[5], x.patch(1), c[6]);
        }
        PegWatch x = still(6, 6, 5, 2);
        x.run(watchAt(x, 8, 1));
        due("off the east edge", x.patch(1), 0);
        x.run(watchAt(x, 24, 1));
        due("nothing comes back from there", x.patch(2), 0);
        PegWatch far = still(20, 20, 0, 0);
        far.miss(20000);
        far.stream(20000, 20000, 0, 0);
        far.run(watchAt(far, 8, 12));
        due("the farthest: 12 to 17 cells", far.patch(1), 6 * 4);
        due("the farthest", far.has(1, 17, 0), 1);
        due("behind it", far.has(1, 18, 0), 0);
    }

    private static void whatSignsLetStay() {
        says(TERMS, "SIGNS: sort 0 SOUNDING a, b: DEPTH from a to b;");
        stays("DEPTHS 11, 12", 0, 11, 12, 2);
        stays("DEPTH 11 alone", 0, 11, 11, 1);
        stays("all DEPTHS", 0, 0, 99, 15);
        stays("the least DEPTH: land is in no PATCH", 0, 0, 0, 0);
        stays("the greatest DEPTH", 0, 99, 99, 1);
        stays("between", 0, 14, 49, 0);
        stays("up to 50", 0, 14, 50, 10);
        stays("from 50", 0, 50, 98, 10);
        PegWatch great = anywhere(20, 20);
        great.sea(19, 19, 19, 19, 51);
        great.sign(0, 51, 51);
        due("the last of 20 by 20", great.has(1, 19, 19), 1);
        due("and no other one", great.patch(1), 1);

        says(TERMS, "1 NO BOTTOM a: DEPTH above a;");
        stays("the least a", 1, 0, 0, 15);
        stays("one less than a DEPTH", 1, 11, 0, 13);
        stays("just a DEPTH", 1, 12, 0, 12);
        stays("the second greatest a", 1, 98, 0, 1);
        stays("the greatest a", 1, 99, 0, 0);

        says(TERMS, "2 BIRDS a: NEAR by a;");
        stays("by 0: land alone", 2, 0, 0, 0);
        stays("by 1", 2, 1, 0, 3);
        stays("by 2", 2, 2, 0, 8);
        stays("by 8", 2, 8, 0, 15);
        PegWatch x = anywhere(20, 20);
        x.sea(0, 0, 0, 0, 0);
        x.sign(2, 8, 0);
        due("by 8 of 20", x.patch(1), 80);
        due("the farthest", x.has(1, 8, 8), 1);
        due("behind it", x.has(1, 9, 8), 0);

        says(TERMS, "3 WEED;");
        stays("two, one of them land", 3, 0, 0, 1);
        x.sign(3, 0, 0);
        due("no WEED at all", x.patch(2), 0);
        x.weed(8, 8, 19, 19, true);
        due("WEED comes later", x.patch(2), 1);

        says(TERMS, "4 HEIGHT a, b: y from a to b;");
        stays("the lowest", 4, 0, 0, 4);
        stays("the highest", 4, 3, 3, 3);
        stays("above it", 4, 4, 4, 0);
        stays("from the highest on", 4, 3, 99, 3);
        stays("all", 4, 0, 99, 15);
        stays("far above", 4, 99, 99, 0);
        PegWatch y = anywhere(20, 20);
        y.sign(4, 19, 99);
        due("the highest of 20", y.patch(1), 20);
        y.sign(4, 20, 99);
        due("above it", y.patch(2), 0);

        says(TERMS, "5 NO LAND a: not NEAR by a.");
        stays("by 0", 5, 0, 0, 15);
        stays("by 1", 5, 1, 0, 12);
        stays("by 2", 5, 2, 0, 7);
        stays("by 3", 5, 3, 0, 0);
        PegWatch z = anywhere(20, 20);
        z.sign(5, 8, 0);
        due("no land at all", z.patch(1), 400);
        z.sea(0, 0, 0, 0, 0);
        due("by 8 of 20", z.patch(1), 319);

        says(TERMS, "A SIGN cuts a PATCH: those CELLS stay.");
        PegWatch one = still(4, 4, 1, 1);
        one.sign(4, 0, 3);
        due("it brings none", one.patch(1), 1);
        one.sign(4, 2, 3);
        due("it cuts the last one", one.patch(2), 0);
        one.sign(4, 0, 3);
        due("nothing is left to stay", one.patch(3), 0);
        one.sea(1, 1, 1, 1, 40);
        one.strike();
        one.strike();
        one.sign(0, 40, 40);
        due("the DEPTH told", one.patch(2), 1);
        one.sea(1, 1, 1, 1, 41);
        due("another DEPTH by now", one.patch(2), 0);
        one.strike();
        one.sign(0, 41, 41);
        due("another SIGN in its place", one.patch(2), 1);
        one.strike();
        one.sign(0, 42, 42);
        due("yet another SIGN in its place", one.patch(2), 0);
    }

    /**
     * How many CELLS a SIGN lets stay of 4 by 4: land at (3, 3), DEPTHS 10 to 13 from (0, 0) to (3, 0),
     * 99 at (0, 3), else 50; WEED at (3, 3) and (2, 3).
     */
    private static void stays(String what, int sort, int a, int b, int want) {
        PegWatch x = anywhere(4, 4);
        for (int i = 0; i < 4; i++) {
            x.sea(i, 0, i, 0, 10 + i);
        }
        x.sea(0, 3, 0, 3, 99);
        x.sea(3, 3, 3, 3, 0);
        x.weed(2, 3, 3, 3, true);
        x.sign(sort, a, b);
        due(what, x.patch(1), want);
    }

    // ---- Terms: the log

    private static void termsOfTheLog() {
        says(TERMS, "THE LOG has ROWS (40 at most), in order: each a WATCH or a SIGN; each COUNTS or not.");
        PegWatch x = new PegWatch();
        x.watch();
        x.watch();
        due("a WATCH", x.run(1), 1);
        for (int i = 2; i <= 40; i++) {
            due("a SIGN", x.sign(1, i, 0), i);
        }
        due("a SIGN too many", x.sign(1, 0, 0), FULL);
        due("a WATCH too many", x.run(0), FULL);
        due("the first", x.row(0, 0), 1);
        due("the second", x.row(1, 2), 2);
        due("the last", x.row(39, 2), 40);
        due("behind it", x.row(40, 2), UNKNOWN);
        due("COUNTS", x.count(39, false), 1);
        due("does not", x.row(39, 4), 0);
        due("the one ahead of it does", x.row(38, 4), 1);

        says(TERMS, "THE START: all CELLS that are no land with x, y at most r from those told.");
        int[][] cases = {{0, 0, 0, 1}, {19, 19, 0, 1}, {0, 0, 1, 4}, {0, 0, 18, 361}, {0, 0, 19, 400}, {0, 0, 20, 400}, {19, 19, 18, 361},
            {19, 19, 20, 400}, {10, 10, 9, 361}, {10, 10, 10, 400}, {9, 9, 9, 361}, {9, 9, 10, 400}, {19, 0, 1, 4}, {5, 5, 1, 9}};
        for (int[] c : cases) {
            PegWatch y = new PegWatch();
            y.chart(20, 20);
            due("(" + c[0] + ", " + c[1] + ") by " + c[2], y.start(c[0], c[1], c[2]), c[3]);
        }
        PegWatch y = new PegWatch();
        y.sea(0, 0, 0, 0, 0);
        due("on land", y.start(0, 0, 0), 0);
        due("beside land", y.start(1, 1, 1), 8);
        y.sea(0, 0, 0, 0, 1);
        due("land no more", y.patch(0), 9);
        y.sea(2, 2, 2, 2, 0);
        due("land by now", y.patch(0), 8);

        says(TERMS, "THE PATCH: THE START, taken on and cut ROW by ROW as they COUNT (a WATCH that does not COUNT: as with all PEGS"
                + " LOST, its KNOTS as they are; a SIGN that does not: nothing), GLASS 0, BENTS 0.");
        rowsThatDoNotCount();
        glassAndBentsAreNone();
    }

    private static void rowsThatDoNotCount() {
        PegWatch fresh = still(5, 5, 2, 2);
        fresh.run(fresh.watch());
        fresh.count(0, false);
        due("a WATCH as it comes", fresh.patch(1), 1);
        PegWatch x = still(20, 20, 10, 10);
        due("no ROWS: THE START", x.patch(0), 1);
        int w = watchInTheWind(x);
        x.run(w);
        due("a WATCH that makes nothing", x.patch(1), 1);
        x.count(0, false);
        due("all LOST: 8000", x.patch(1), 9);
        x.peg(w, 1, LOST);
        due("one was LOST already", x.patch(1), 9);
        x.miss(1);
        due("all LOST, and MISS: 8001", x.patch(1), 25);
        x.stream(8000, 8000, -8000, -8000);
        due("and THE STREAM", x.has(1, 9, 7), 1);
        due("and THE STREAM", x.has(1, 8, 7), 0);
        due("and THE STREAM", x.has(1, 13, 11), 1);
        due("and THE STREAM", x.has(1, 13, 12), 0);
        x.stream(0, 0, 0, 0);
        x.miss(0);
        x.knots(w, 0, 0);
        due("no KNOTS", x.patch(1), 1);
        for (int k = 0; k < 4; k++) {
            x.knots(w, k, 12);
        }
        due("all KNOTS: twelve to each side", x.patch(1), 400);
        x.start(0, 0, 0);
        due("twelve to each side of the corner", x.patch(1), 13 * 13);
        x.count(0, true);
        x.sign(4, 19, 19);
        due("a SIGN that COUNTS", x.patch(2), 0);
        x.count(1, false);
        due("a SIGN that does not", x.patch(2), x.patch(1));
        x.sign(4, 0, 0);
        due("the ROWS behind it go on", x.patch(3), 12);
    }

    private static void glassAndBentsAreNone() {
        PegWatch x = still(20, 20, 10, 10);
        x.run(watchAt(x, 8, 3));
        x.set(0, 0, 5);
        due("24000 east", x.patch(1), 1);
        long was = x.digest();
        due("by the last of all GLASSES and BENTS: elsewhere", x.fits(14, 8), 1);
        due("the last one", x.fit(14, 8, 0), 1854);
        due("and then as ever", x.patch(1), 1);
        due("and then as ever", x.has(1, 13, 10), 1);
        due("seen back as ever", x.was(0, 10, 10), 1);
        due("two calls more were done", x.digest(), was + 2 * 31 * 31);
    }

    // ---- Terms: what is wrong

    private static void termsOfWhatIsWrong() {
        says(TERMS, "BLAMED: where THE PATCH is empty: ROWS that COUNT, without the COUNTING of one of which it would not be empty;");
        PegWatch x = still(8, 8, 0, 0);
        due("it is not empty", x.blamed(), STATE);
        x.sea(0, 0, 0, 0, 0);
        due("THE START is land, there are no ROWS", x.blamed(), 0);
        due("THE START is land, there are no ROWS", x.blame(0), NONE);
        x.sign(4, 0, 0);
        due("THE START is land, a ROW does not help", x.blamed(), 0);
        x.sea(0, 0, 0, 0, 50);
        x.sign(4, 7, 7);
        due("one ROW", x.blamed(), 1);
        due("one ROW, the last", x.blame(0), 1);
        x.count(1, false);
        x.sign(4, 6, 6);
        due("a ROW that does not COUNT is not BLAMED", x.blamed(), 1);
        due("a ROW that does not COUNT is not BLAMED", x.blame(0), 2);
        x.strike();
        x.strike();
        x.strike();
        x.sign(4, 6, 6);
        due("the first ROW alone", x.blame(0), 0);
        x.run(watchInTheWind(x));
        due("a WATCH behind it does not help", x.blamed(), 1);
        x.sign(4, 1, 1);
        due("two of which neither helps alone", x.blame(0), 101);
        whichRowHelps();

        says(TERMS, "if there are none, pairs of ROWS that COUNT, without the COUNTING of both.");
        pairs();
        mostOfAllPairs();
        manyPairs();
    }

    private static void whichRowHelps() {
        PegWatch x = still(8, 8, 3, 3);
        x.run(watchInTheWind(x));
        x.run(watchInTheWind(x));
        x.sign(4, 4, 4);
        due("either WATCH, or the SIGN", x.blamed(), 3);
        for (int i = 0; i < 3; i++) {
            due("in order", x.blame(i), i);
        }
        due("no pair where one helps", x.blame(3), NONE);
    }

    private static void pairs() {
        PegWatch x = still(8, 8, 0, 0);
        x.sign(4, 5, 5);
        x.sign(4, 6, 6);
        due("one pair", x.blamed(), 1);
        due("the first two", x.blame(0), 101);
        due("no more", x.blame(1), NONE);
        x.sign(4, 7, 7);
        due("three must go", x.blamed(), 0);
        due("three must go", x.blame(0), NONE);
        x.count(0, false);
        due("one of them does not COUNT", x.blamed(), 1);
        due("one of them does not COUNT", x.blame(0), 202);
        PegWatch y = still(8, 8, 0, 0);
        for (int i = 0; i < 38; i++) {
            y.sign(4, 0, 7);
        }
        y.sign(4, 5, 5);
        y.sign(4, 6, 6);
        due("the last two", y.blamed(), 1);
        due("the last two", y.blame(0), 3939);
    }

    /**
     * A LOG of 40: 19 times a WATCH that takes her one CELL to each side (two if it does not COUNT) and a SIGN that
     * lets even y stay; then twice a SIGN that she is at 4 or more. Two ROWS that are not too near each other help.
     */
    private static void mostOfAllPairs() {
        PegWatch x = still(4, 20, 0, 0);
        x.miss(8000);
        for (int y = 0; y < 20; y += 2) {
            x.sea(0, y, 3, y, 10);
        }
        for (int i = 0; i < 19; i++) {
            x.run(watchInTheWind(x));
            x.sign(0, 10, 10);
        }
        x.sign(4, 4, 19);
        x.sign(4, 4, 19);
        List<Integer> all = new ArrayList<>();
        for (int lesser = 0; lesser < 40; lesser++) {
            for (int other = lesser + 1; other < 40; other++) {
                if (isFourReached(lesser, other)) {
                    all.add(100 * (lesser + 1) + other);
                }
            }
        }
        due("how many pairs", x.blamed(), all.size());
        due("two of three and more of all that there may be", all.size() > 520 ? 1 : 0, 1);
        for (int i = 0; i < 18; i++) {
            int at = i * (all.size() - 1) / 17;
            due("the " + at + "th pair", x.blame(at), all.get(at));
        }
        due("no more", x.blame(all.size()), NONE);
    }

    /** Along y alone, for the LOG above without two of its ROWS. */
    private static boolean isFourReached(int not, int nor) {
        boolean[] at = new boolean[20];
        at[0] = true;
        for (int row = 0; row < 40; row++) {
            boolean counts = row != not && row != nor;
            boolean isWatch = row < 38 && row % 2 == 0;
            boolean[] next = new boolean[20];
            for (int y = 0; y < 20; y++) {
                for (int to = 0; at[y] && to < 20; to++) {
                    if (isWatch) {
                        next[to] |= Math.abs(to - y) <= (counts ? 1 : 2);
                    } else if (to == y) {
                        next[to] = !counts || (row < 38 ? y % 2 == 0 : y >= 4);
                    }
                }
            }
            at = next;
        }
        for (boolean is : at) {
            if (is) {
                return true;
            }
        }
        return false;
    }

    private static void manyPairs() {
        PegWatch x = still(20, 20, 0, 0);
        for (int w = 0; w < 24; w++) {
            x.run(watchInTheWind(x));
        }
        x.sign(4, 2, 19);
        x.sign(4, 2, 19);
        due("any two WATCHES, or both SIGNS", x.blamed(), 276 + 1);
        due("the first pair", x.blame(0), 101);
        due("the last of the first ROW", x.blame(22), 123);
        due("the first of the second ROW", x.blame(23), 202);
        due("the last pair of WATCHES", x.blame(275), 2323);
        due("the SIGNS", x.blame(276), 2525);
        due("no more", x.blame(277), NONE);

        says(TERMS, "BEHIND ROW t (0: THE START, t: behind ROW t less 1):");
        due("THE START", x.patch(0), 1);
        due("behind the first ROW", x.patch(1), 1);
        x.count(0, false);
        due("THE START", x.patch(0), 1);
        due("behind the first ROW", x.patch(1), 4);
        x.count(1, false);
        due("behind the first ROW", x.patch(1), 4);
        due("behind the second ROW", x.patch(2), 9);
        due("ahead of the SIGNS", x.patch(24), 9);
        due("behind the first SIGN", x.patch(25), 3);
        due("behind the last ROW", x.patch(26), 3);
        due("behind none", x.patch(27), UNKNOWN);
        due("below 0", x.patch(-1), UNKNOWN);

        says(TERMS, "HERE: CELLS of what THE PATCH is by then from which some CELL of THE PATCH at the end is reached by the ROWS that"
                + " follow.");
        due("at the end: all", x.here(26), 3);
        due("ahead of the SIGNS", x.here(24), 3);
        due("behind the second ROW", x.here(2), 3);
        due("behind the first ROW: those at y 1", x.here(1), 2);
        due("at y 1", x.was(1, 1, 1), 1);
        due("at y 0", x.was(1, 1, 0), 0);
        due("THE START", x.here(0), 1);
        x.count(0, true);
        due("nothing at the end: nothing ahead", x.here(0), 0);
        due("nothing at the end: nothing ahead", x.here(1), 0);
        overLandAndOffTheChart();
    }

    private static void overLandAndOffTheChart() {
        PegWatch x = still(10, 4, 0, 0);
        due("no ROWS", x.here(0), 1);
        x.start(1, 1, 1);
        x.run(watchAt(x, 8, 1));
        x.run(watchAt(x, 8, 1));
        x.sea(1, 1, 1, 1, 0);
        due("land in THE START", x.patch(0), 8);
        due("one goes on to land", x.here(0), 7);
        due("the one that goes on to land", x.was(0, 0, 1), 0);
        due("the one beside it", x.was(0, 0, 0), 1);
        due("land is never HERE", x.was(0, 1, 1), 0);
        due("behind land there is none", x.was(1, 2, 1), 0);
        PegWatch y = anywhere(4, 4);
        y.miss(0);
        y.run(watchAt(y, 8, 3));
        due("those that stay on THE CHART", y.here(0), 4);
        due("the west edge does", y.was(0, 0, 3), 1);
        due("the others do not", y.was(0, 1, 3), 0);
        seenBackTo(8, 1, 0);
        seenBackTo(24, -1, 0);
        seenBackTo(0, 0, 1);
        seenBackTo(16, 0, -1);
    }

    /** Two or three CELLS along a POINT from (4, 4) or those about it, to the one CELL with WEED. */
    private static void seenBackTo(int point, int east, int north) {
        PegWatch x = still(9, 9, 4, 4);
        x.start(4, 4, 1);
        x.run(watchAt(x, point, 2));
        x.stream(Math.min(0, 8000 * east), Math.max(0, 8000 * east), Math.min(0, 8000 * north), Math.max(0, 8000 * north));
        x.weed(4 + 3 * east, 4 + 3 * north, 4 + 3 * east, 4 + 3 * north, true);
        x.sign(3, 0, 0);
        due(point + ": at the end", x.patch(2), 1);
        due(point + ": from how many", x.here(0), 2);
        due(point + ": by three", x.was(0, 4, 4), 1);
        due(point + ": by two", x.was(0, 4 + east, 4 + north), 1);
        due(point + ": by four", x.was(0, 4 - east, 4 - north), 0);
        due(point + ": beside", x.was(0, 4 + north, 4 + east), 0);
    }

    // ---- Terms: landfall

    private static void termsOfLandfall() {
        says(TERMS, "A LANDFALL at a CELL: FITS are all GLASSES g from -9 to 9, HELMSMEN m, BENTS b from -2 to 2 of that one (the"
                + " others' 0), in order of g, m, b, with b 0 for m 0 alone, by which THE PATCH, made with them, has that CELL.");
        PegWatch x = still(4, 4, 1, 1);
        due("no ROWS: all", x.fits(1, 1), 19 * 25);
        due("no ROWS: none", x.fits(0, 1), 0);
        due("the first", x.fit(1, 1, 0), 0);
        due("the last", x.fit(1, 1, 474), 1854);
        due("no more", x.fit(1, 1, 475), NONE);
        x.sea(1, 1, 1, 1, 0);
        due("land", x.fits(1, 1), 0);
        fitsInOrder();
        edgesOfGlassAndBent();
        othersBents();
    }

    private static void fitsInOrder() {
        int[] order = {0, 1, 2, 3, 4, 10, 11, 13, 14, 20, 21, 23, 24, 30, 31, 33, 34, 40, 41, 43, 44, 50, 51, 53, 54, 100};
        for (int half = 0; half < 2; half++) {
            PegWatch x = new PegWatch();
            for (int i = 0; i < 13; i++) {
                due("in order", x.fit(0, 0, 13 * half + i), order[13 * half + i]);
            }
        }
    }

    private static void edgesOfGlassAndBent() {
        PegWatch x = still(20, 20, 0, 0);
        x.miss(20000);
        x.stream(20000, 20000, 0, 0);
        x.run(watchAt(x, 8, 12));
        due("the greatest GLASS alone: 104640 and 40000", x.fits(19, 0), 21);
        due("without a BENT of its own HELMSMAN", x.fit(19, 0, 0), 1802);
        due("with all those of the others", x.fit(19, 0, 20), 1854);
        x.count(0, false);
        due("a WATCH that does not COUNT knows no GLASS", x.fits(19, 0), 0);
        due("a WATCH that does not COUNT knows no GLASS", x.fits(17, 0), 475);
        PegWatch y = still(20, 20, 10, 10);
        y.set(watchAt(y, 8, 1), 0, 3);
        y.run(0);
        due("the least GLASS", y.fit(10, 10, 0), 0);
        due("to the north: bent to the left", y.fits(11, 11), 19 * 2);
        due("bent by two first", y.fit(11, 11, 0), 30);
        due("then by one", y.fit(11, 11, 1), 31);
        due("to the south: bent to the right", y.fit(11, 9, 0), 33);
        due("then by two", y.fit(11, 9, 1), 34);
        due("by the greatest GLASS", y.fit(11, 9, 37), 1834);
        y.stream(0, 0, -8000, -8000);
        due("two to the south", y.fits(11, 8), 19 * 2);
    }

    private static void othersBents() {
        PegWatch x = still(20, 20, 10, 10);
        for (int m = 0; m < 6; m++) {
            x.set(watchAt(x, 0, 1), 0, m);
            x.run(m);
        }
        due("one of six is bent to the east", x.fits(11, 16), 6 * 19 * 2);
        due("the first HELMSMAN", x.fit(11, 16, 0), 3);
        due("the last HELMSMAN", x.fit(11, 16, 11), 54);
        due("two never are", x.fits(12, 16), 0);
        x.set(4, 0, 0);
        due("two of one HELMSMAN are both bent", x.fits(12, 16), 19 * 2);
        due("bent to the right", x.fit(12, 16, 0), 3);
    }

    // ---- Terms: courses

    /** Land at (8, 2) of 10 by 6, THE START at (1, 2). */
    private static PegWatch island() {
        PegWatch x = still(10, 6, 1, 2);
        x.sea(8, 2, 8, 2, 0);
        return x;
    }

    private static void termsOfCourses() {
        says(TERMS, "A COURSE p with KNOTS v for T half glasses from a CELL of THE PATCH: behind half glass t (1 to T) she may be in"
                + " all CELLS (x and i, y and k), i from t v EAST by 8000, rounded down, to that rounded up, k by NORTH,");
        PegWatch x = island();
        due("whole CELLS: at (6, 2) at 5", x.sights(1, 2, 8, 8, 96, 0, 2), 5);
        due("just up to T", x.sights(1, 2, 8, 8, 5, 0, 2), 5);
        due("not up to T", x.sights(1, 2, 8, 8, 4, 0, 2), 0);
        due("half CELLS: at (5, 2) or (6, 2) at 9", x.sights(1, 2, 8, 4, 96, 0, 2), 10);
        due("one and a half: at (5, 2) or (6, 2) at 3", x.sights(1, 2, 8, 12, 96, 0, 2), 4);
        due("an eighth", x.sights(1, 2, 8, 1, 96, 0, 6), 8);
        due("an eighth to the west", x.sights(1, 2, 24, 1, 1, 0, 7), 0);
        due("the first half glass is 1", x.sights(1, 2, 8, 1, 1, 0, 7), 1);
        due("where she is does not matter", x.sights(1, 2, 24, 12, 1, 0, 7), 0);
        offTheChart();
        byDay();
        aground();
        sureFromEach();
    }

    private static void offTheChart() {
        says(TERMS, "off THE CHART too (that is no land, not NEAR).");
        int[][] cases = {{4, 0, 6, 0, 8, 1}, {4, 0, 6, 0, 7, 1}, {4, 0, 6, 0, 9, 0}, {4, 9, 6, 9, 8, 1}, {4, 9, 6, 9, 9, 1},
            {4, 9, 6, 9, 7, 0}, {0, 4, 0, 6, 0, 1}, {0, 4, 0, 6, 1, 1}, {0, 4, 0, 6, 31, 0}, {9, 4, 9, 6, 0, 1},
            {9, 4, 9, 6, 31, 1}, {9, 4, 9, 6, 1, 0}};
        for (int[] c : cases) {
            PegWatch x = still(10, 10, c[0], c[1]);
            x.sea(c[2], c[3], c[2], c[3], 0);
            due("from (" + c[0] + ", " + c[1] + ") by " + c[4], x.sights(c[0], c[1], c[4], 1, 1, 0, 2), c[5]);
        }
        PegWatch x = still(20, 20, 19, 1);
        x.sea(0, 2, 1, 2, 0);
        due("the other edge, one up, is not beside her", x.sights(19, 1, 8, 8, 1, 0, 8), 0);
        x.sea(0, 2, 1, 2, 1);
        x.sea(19, 0, 19, 0, 0);
        x.start(0, 1, 0);
        due("the other edge, one down, is not beside her", x.sights(0, 1, 24, 8, 1, 0, 8), 0);
        PegWatch y = still(20, 20, 0, 19);
        y.sea(19, 19, 19, 19, 0);
        due("she goes off, where no land is", y.sights(0, 19, 0, 12, 96, 0, 8), 0);
        due("far off", y.sights(0, 19, 24, 12, 96, 0, 8), 0);
        due("along the edge", y.sights(0, 19, 8, 12, 96, 0, 8), 8);
        PegWatch z = still(20, 20, 19, 10);
        z.sea(0, 2, 0, 2, 0);
        due("the west edge, by day at last", z.sights(19, 10, 24, 8, 96, 30, 8), 19);
        due("behind the west edge", z.sights(19, 10, 24, 8, 96, 29, 8), 0);
        z.sea(0, 2, 0, 2, 1);
        z.sea(19, 2, 19, 2, 0);
        z.start(0, 10, 0);
        due("the east edge, by day at last", z.sights(0, 10, 8, 8, 96, 30, 8), 19);
        due("behind the east edge", z.sights(0, 10, 8, 8, 96, 29, 8), 0);
    }

    private static void byDay() {
        says(TERMS, "SIGHTED at t: all these are NEAR by R, and the half glass is by day: (t less 1 and D) modulo 48 is below 24.");
        PegWatch x = still(20, 20, 0, 3);
        x.sea(19, 3, 19, 3, 0);
        due("all at 96: by day", x.sights(0, 3, 8, 1, 96, 1, 7), 96);
        due("all at 96: the last half glass of night", x.sights(0, 3, 8, 1, 96, 0, 7), 0);
        due("all at 96: the last half glass of day", x.sights(0, 3, 8, 1, 96, 24, 7), 96);
        due("all at 96: the first half glass of night", x.sights(0, 3, 8, 1, 96, 25, 7), 0);
        due("all at 96: not up to 95", x.sights(0, 3, 8, 1, 95, 1, 7), 0);
        due("all at 88 by 8", x.sights(0, 3, 8, 1, 96, 10, 8), 88);
        due("not by 6", x.sights(0, 3, 8, 1, 96, 1, 6), 0);
        PegWatch y = still(8, 8, 3, 3);
        y.sea(7, 3, 7, 3, 0);
        due("at once", y.sights(3, 3, 0, 1, 96, 0, 8), 1);
        due("the last half glass of day", y.sights(3, 3, 0, 1, 96, 23, 8), 1);
        due("from the first half glass of night to day", y.sights(3, 3, 4, 1, 96, 24, 8), 25);
        due("all night", y.sights(3, 3, 4, 1, 24, 24, 8), 0);
        due("the last half glass of night", y.sights(3, 3, 0, 1, 96, 47, 8), 2);
        due("the last half glass of night alone", y.sights(3, 3, 0, 1, 1, 47, 8), 0);
    }

    private static void aground() {
        says(TERMS, "AGROUND at t: one of these is land.");
        PegWatch x = island();
        due("beside land", x.sights(1, 2, 8, 8, 96, 0, 1), 6);
        due("by R 0: NEAR is land itself", x.sights(1, 2, 8, 8, 96, 0, 0), 0);
        due("both at 13: AGROUND", x.sights(1, 2, 8, 4, 96, 36, 1), 0);
        due("one half glass sooner", x.sights(1, 2, 8, 4, 96, 37, 1), 12);
        PegWatch low = still(6, 6, 3, 1);
        low.sea(3, 0, 3, 0, 0);
        low.sea(0, 1, 0, 1, 0);
        due("land at the lowest edge", low.sights(3, 1, 17, 1, 96, 0, 2), 0);
        due("land at the west edge", low.sights(3, 1, 24, 12, 96, 47, 2), 0);
        due("ahead of the west edge", low.sights(3, 1, 24, 12, 96, 0, 2), 1);
        PegWatch along = still(8, 8, 3, 0);
        along.sea(5, 0, 5, 0, 0);
        due("along the lowest edge", along.sights(3, 0, 8, 8, 96, 46, 1), 0);
        due("along the lowest edge, by day", along.sights(3, 0, 8, 8, 96, 0, 1), 1);
        along.sea(5, 0, 5, 0, 1);
        along.sea(5, 7, 5, 7, 0);
        along.start(3, 7, 0);
        due("along the highest edge", along.sights(3, 7, 8, 8, 96, 46, 1), 0);
        PegWatch high = still(6, 6, 3, 4);
        high.sea(3, 5, 3, 5, 0);
        high.sea(5, 4, 5, 4, 0);
        due("land at the highest edge", high.sights(3, 4, 1, 1, 96, 0, 2), 0);
        due("land at the east edge", high.sights(3, 4, 8, 12, 96, 0, 2), 0);

        says(TERMS, "THE COURSE IS SURE from there, if it is SIGHTED at some t, and not AGROUND at any t up to that one.");
        x.sea(4, 2, 4, 2, 0);
        due("SIGHTED at 2", x.sights(1, 2, 8, 8, 96, 0, 1), 2);
        due("AGROUND at 3 by night", x.sights(1, 2, 8, 8, 96, 45, 1), 0);
        due("AGROUND at 3, ahead of what is SIGHTED at 6", x.sights(1, 2, 8, 8, 96, 24, 1), 0);
        due("never SIGHTED, never AGROUND", x.sights(1, 2, 24, 8, 96, 0, 1), 0);
    }

    private static void sureFromEach() {
        says(TERMS, "IT IS SURE, if it is so from each CELL of THE PATCH (not empty).");
        PegWatch x = island();
        x.start(1, 2, 1);
        due("from each of nine", x.sure(8, 8, 96, 0, 2), 6);
        due("three go by too far", x.sure(8, 8, 96, 0, 0), 0);
        due("just up to T", x.sure(8, 8, 6, 0, 2), 6);
        due("the last one not up to T", x.sure(8, 8, 5, 0, 2), 0);
        x.sea(4, 3, 4, 3, 0);
        due("some are SIGHTED at land between, the others later", x.sure(8, 8, 96, 0, 1), 7);
        x.sea(3, 2, 3, 2, 0);
        due("one goes AGROUND at once", x.sure(8, 8, 96, 0, 1), 0);
        x.sign(4, 5, 5);
        due("empty", x.sure(8, 8, 96, 0, 2), STATE);
        PegWatch y = anywhere(20, 20);
        y.sea(0, 0, 19, 0, 0);
        due("those beside land go AGROUND", y.sure(16, 8, 96, 0, 1), 0);
        y.sign(5, 1, 0);
        due("from all others", y.sure(16, 8, 96, 0, 1), 18);
    }

    // ---- Terms: refusals

    private static void termsOfRefusals() {
        says(TERMS, "Refusals, of several the first as told by each call: UNKNOWN (a number names nothing), OUTSIDE (it is not as told),"
                + " STATE (as told), FULL; they change nothing.");
        PegWatch x = island();
        x.watch();
        x.watch();
        x.run(0);
        fillLog(x);
        refused(x, "go: p, side", -100000, () -> x.go(32, 2));
        refused(x, "peg: peg, point", UNKNOWN, () -> x.peg(0, 8, 32));
        refused(x, "knots: watch, v", UNKNOWN, () -> x.knots(2, 0, 13));
        refused(x, "set: what, v", UNKNOWN, () -> x.set(0, 3, 99));
        refused(x, "leeway: wind, sail", UNKNOWN, () -> x.leeway(0, 32, 3));
        refused(x, "way: watch, g", -10000001, () -> x.way(2, 10, 0, 0));
        refused(x, "chart: w, the log", OUTSIDE, () -> x.chart(3, 8));
        refused(x, "sea: corner, v", UNKNOWN, () -> x.sea(0, 0, 10, 0, 100));
        refused(x, "sea: corner, x1 above x2", UNKNOWN, () -> x.sea(10, 0, 0, 0, 0));
        refused(x, "weed: corner, y1 above y2", UNKNOWN, () -> x.weed(0, 6, 0, 0, true));
        refused(x, "about: x, what", UNKNOWN, () -> x.about(10, 0, 3));
        refused(x, "start: x, r", UNKNOWN, () -> x.start(10, 0, 21));
        refused(x, "run: unknown, full", UNKNOWN, () -> x.run(2));
        refused(x, "run: in the log, full", STATE, () -> x.run(0));
        refused(x, "run: full", FULL, () -> x.run(1));
        refused(x, "sign: sort, full", OUTSIDE, () -> x.sign(6, 0, 0));
        refused(x, "sign: a, full", OUTSIDE, () -> x.sign(5, 9, 0));
        refused(x, "sign: full", FULL, () -> x.sign(5, 8, 0));
        refused(x, "row: row, what", UNKNOWN, () -> x.row(40, 5));
        refused(x, "sights: x, p", UNKNOWN, () -> x.sights(10, 0, 32, 0, 0, 48, 9));
        refused(x, "sights: p, not in the patch", OUTSIDE, () -> x.sights(9, 5, 32, 1, 1, 0, 0));
        refused(x, "sights: not in the patch", STATE, () -> x.sights(9, 5, 31, 1, 1, 0, 0));
        refused(x, "blamed: not empty", STATE, () -> x.blamed());
        refused(x, "blame: not empty", STATE, () -> x.blame(0));
        PegWatch y = new PegWatch();
        y.sea(0, 0, 0, 0, 0);
        refused(y, "sure: p, empty", OUTSIDE, () -> y.sure(32, 1, 1, 0, 0));
        refused(y, "sure: empty", STATE, () -> y.sure(31, 1, 1, 0, 0));
        refused(y, "course: v, empty", OUTSIDE, () -> y.course(0, 1, 0, 0));
        refused(y, "course: empty", STATE, () -> y.course(1, 1, 0, 0));
        for (int i = 0; i < 24; i++) {
            y.word(0);
        }
        refused(y, "word: above, full", OUTSIDE, () -> y.word(1000));
        refused(y, "word: full", FULL, () -> y.word(0));
        refused(y, "told: does not hold", STATE, () -> y.told());
        refused(y, "strike: none", STATE, () -> y.strike());
    }

    // ---- promises: headings

    private static void promisesOfHeadings() {
        aNewObject();
        nameAndRead();
        turnsAndGo();
        wordsAndHush();
        faultAndTold();
    }

    private static void aNewObject() {
        says(1, "A CHART of 8 by 8, no WATCHES, an empty LOG, THE START at 0, 0 by 0; MISS 2000.");
        PegWatch x = new PegWatch();
        due("the digest", x.digest(), digestOfNew());
        due("the last CELL", x.about(7, 7, 0), 50);
        due("east of it", x.about(8, 7, 0), UNKNOWN);
        due("north of it", x.about(7, 8, 0), UNKNOWN);
        due("no WATCH", x.run(0), UNKNOWN);
        due("no WATCH", x.peg(0, 0, 0), UNKNOWN);
        due("no ROW", x.row(0, 0), UNKNOWN);
        due("no ROW", x.strike(), STATE);
        due("behind no ROW", x.patch(1), UNKNOWN);
        due("THE START", x.has(0, 0, 0), 1);
        due("beside THE START", x.has(0, 1, 0), 0);
        due("above THE START", x.has(0, 0, 1), 0);
        due("MISS", x.miss(0), 2000);
        int[] many = {0, 0, 0, 0, 0, 0, 8, 8, 0, 0};
        for (int what = 0; what < 10; what++) {
            due("many(" + what + ")", x.many(what), many[what]);
        }
    }

    private static void nameAndRead() {
        PegWatch x = new PegWatch();
        says(2, "The NAME of a POINT;");
        due("the first", x.name(0), figures("N"));
        due("the last", x.name(31), figures("NbW"));

        says(2, "NONE (as -1): it is none.");
        for (int p : new int[] {-1, 32, LOW, HIGH}) {
            refused(x, "name(" + p + ")", -1, () -> x.name(p));
        }

        says(3, "The POINT of a NAME;");
        for (int p = 0; p < 32; p++) {
            due(NAMES[p], x.read(figures(NAMES[p])), p);
        }

        says(3, "-1000 less how many letters from the front are the beginning of some NAME, if it is none;");
        String[] none = {"b", "bN", "NS", "WW", "NN", "NNN", "NEE", "NEb", "NEbS", "NEbNN", "WbNE", "SSS", "ENEb", "WbW",
            "NEbNNNNNNNNN"};
        int[] letters = {0, 0, 1, 1, 2, 2, 2, 3, 3, 4, 3, 2, 3, 2, 4};
        for (int i = 0; i < none.length; i++) {
            due(none[i], x.read(figures(none[i])), -1000 - letters[i]);
        }
        due("the greatest without a figure 0", x.read(figures("bbEbbbbbbbbb")), -1000);

        says(3, "OUTSIDE: it is below 1, or has a figure 0.");
        due("1", x.read(1), 0);
        for (int name : new int[] {0, -1, LOW, 6, 36, 37, 42, 408, 2147483646, HIGH}) {
            refused(x, "read(" + name + ")", OUTSIDE, () -> x.read(name));
        }
    }

    private static void turnsAndGo() {
        PegWatch x = new PegWatch();
        says(4, "TURNS from p to q.");
        due("none", x.turns(31, 31), 0);
        due("the most", x.turns(31, 30), 31);
        due("round", x.turns(31, 0), 1);

        says(4, "UNKNOWN.");
        for (int p : new int[] {-1, 32, LOW, HIGH}) {
            refused(x, "turns(" + p + ", 0)", UNKNOWN, () -> x.turns(p, 0));
            refused(x, "turns(31, " + p + ")", UNKNOWN, () -> x.turns(31, p));
        }

        says(5, "EAST (side 0), NORTH (1).");
        due("EAST of the first", x.go(0, 0), 0);
        due("NORTH of the first", x.go(0, 1), 1000);
        due("EAST of the last", x.go(31, 0), -195);
        due("NORTH of the last", x.go(31, 1), 981);

        says(5, "-100000: UNKNOWN: p,");
        for (int p : new int[] {-1, 32, LOW, HIGH}) {
            refused(x, "go(" + p + ", 0)", -100000, () -> x.go(p, 0));
            refused(x, "go(" + p + ", 2)", -100000, () -> x.go(p, 2));
        }

        says(5, "-100001: OUTSIDE.");
        for (int side : new int[] {-1, 2, LOW, HIGH}) {
            refused(x, "go(31, " + side + ")", -100001, () -> x.go(31, side));
        }
    }

    private static void wordsAndHush() {
        PegWatch x = new PegWatch();
        says(6, "A number comes behind PILOTS' WORDS: how many.");
        due("the first, the least", x.word(0), 1);
        due("the second, the greatest", x.word(999), 2);
        due("they came in order", x.digest(), digestOfNew(0, 999));

        says(6, "OUTSIDE: it is below 0 or above 999;");
        for (int v : new int[] {-1, 1000, LOW, HIGH}) {
            refused(x, "word(" + v + ")", OUTSIDE, () -> x.word(v));
        }

        says(6, "FULL.");
        for (int i = 3; i <= 24; i++) {
            due("word", x.word(i), i);
        }
        refused(x, "the 25th", FULL, () -> x.word(0));
        due("still 24", x.many(3), 24);

        says(7, "No WORDS: how many there were.");
        due("24", x.hush(), 24);
        due("none", x.hush(), 0);
        due("as new", x.digest(), new PegWatch().digest());
        due("the next is the first", x.word(7), 1);
        due("it alone is told", x.told(), 7);
        due("one", x.hush(), 1);
    }

    /** The digest of a new object, but for its WORDS. */
    private static long digestOfNew(long... words) {
        long h = fold(fold(199, words), 8, 8);
        for (int cell = 0; cell < 64; cell++) {
            h = fold(h, 50, 0);
        }
        return fold(h, 0, 0, 0, 0, 2000, 0, 0, 0, 1, 0, 0, 0);
    }

    private static void faultAndTold() {
        says(8, "Their FAULT;");
        due("no WORDS", faultOf(), 0);
        due("at the front", faultOf(999), 0);
        due("at the end", faultOf(withLast(24, 301, 999)), 23);
        due("behind the end", faultOf(withLast(24, 301, 301)), 24);
        PegWatch x = said(300, 32);
        long was = x.digest();
        due("it is only told", x.fault(), 1);
        due("it is only told", x.digest(), was);

        says(8, "NONE: they hold.");
        due("they hold", faultOf(31), NONE);
        due("they hold no more", faultOf(31, 31), 1);

        says(9, "The POINT they tell.");
        due("the least", toldBy(0), 0);
        due("the greatest", toldBy(31), 31);
        due("round, to the least", toldBy(116, 16), 0);
        due("round, to the greatest", toldBy(216, 15), 31);

        says(9, "STATE: they do not hold.");
        for (int[] row : new int[][] {{}, {32}, {300}, {301, 0}, {0, 0}, {301, 0, 0, 0}, {100, 0}, {117, 0}, {999}}) {
            PegWatch y = said(row);
            refused(y, "told", STATE, () -> y.told());
        }
    }

    // ---- promises: the board

    private static void promisesOfTheBoard() {
        watchAndPeg();
        knotsAndSet();
        leewayAndWay();
        miss();
    }

    private static void watchAndPeg() {
        says(10, "A WATCH, PEGS all LOST, KNOTS 0, HELMSMAN 0, WIND 0, SAIL 0: its number.");
        PegWatch x = new PegWatch();
        due("the first", x.watch(), 0);
        watchAt(x, 3, 9);
        due("the third, behind one that was set", x.watch(), 2);
        for (int w = 0; w < 3; w += 2) {
            for (int k = 0; k < 8; k++) {
                due("PEG " + k, x.peg(w, k, 1), LOST);
            }
            for (int k = 0; k < 4; k++) {
                due("KNOTS " + k, x.knots(w, k, 1), 0);
            }
            due("HELMSMAN", x.set(w, 0, 1), 0);
            due("WIND", x.set(w, 1, 1), 0);
            due("SAIL", x.set(w, 2, 1), 0);
        }

        says(10, "FULL.");
        for (int w = 3; w < 24; w++) {
            due("watch", x.watch(), w);
        }
        refused(x, "the 25th", FULL, () -> x.watch());
        due("still 24", x.many(0), 24);

        says(11, "A PEG becomes a POINT, or NONE (LOST): what it was.");
        due("the least POINT", x.peg(23, 0, 0), LOST);
        due("the greatest POINT", x.peg(23, 0, 31), 0);
        due("LOST", x.peg(23, 0, LOST), 31);
        due("was LOST", x.peg(23, 7, 8), LOST);
        due("and no other one", x.peg(23, 6, 8), LOST);
        due("and no other WATCH's", x.peg(22, 7, 8), LOST);

        says(11, "UNKNOWN: watch, peg;");
        for (int w : new int[] {-1, 24, LOW, HIGH}) {
            refused(x, "watch " + w, UNKNOWN, () -> x.peg(w, 0, 0));
        }
        for (int k : new int[] {-1, 8, LOW, HIGH}) {
            refused(x, "peg " + k, UNKNOWN, () -> x.peg(0, k, 32));
        }
        PegWatch y = new PegWatch();
        refused(y, "no watch", UNKNOWN, () -> y.peg(0, 0, 0));
        y.watch();
        refused(y, "the next watch", UNKNOWN, () -> y.peg(1, 0, 0));

        says(11, "OUTSIDE.");
        for (int p : new int[] {-2, 32, LOW, HIGH}) {
            refused(x, "point " + p, OUTSIDE, () -> x.peg(0, 7, p));
        }
    }

    private static void knotsAndSet() {
        PegWatch x = new PegWatch();
        x.watch();
        says(12, "KNOTS (0 to 3) of a WATCH become v: what they were.");
        due("the first", x.knots(0, 0, 12), 0);
        due("the last", x.knots(0, 3, 1), 0);
        due("again", x.knots(0, 0, 0), 12);
        due("again", x.knots(0, 3, 0), 1);

        says(12, "UNKNOWN;");
        for (int w : new int[] {-1, 1, LOW, HIGH}) {
            refused(x, "watch " + w, UNKNOWN, () -> x.knots(w, 0, 0));
        }
        for (int k : new int[] {-1, 4, LOW, HIGH}) {
            refused(x, "knots " + k, UNKNOWN, () -> x.knots(0, k, 13));
        }

        says(12, "OUTSIDE.");
        for (int v : new int[] {-1, 13, LOW, HIGH}) {
            refused(x, "v " + v, OUTSIDE, () -> x.knots(0, 3, v));
        }

        says(13, "HELMSMAN (what = 0), WIND (1), SAIL (2) becomes v: what it was.");
        int[] most = {5, 31, 2};
        for (int what = 0; what < 3; what++) {
            due("the greatest of " + what, x.set(0, what, most[what]), 0);
        }
        for (int what = 0; what < 3; what++) {
            due("the least of " + what, x.set(0, what, 0), most[what]);
        }

        says(13, "UNKNOWN: watch, what;");
        for (int w : new int[] {-1, 1, LOW, HIGH}) {
            refused(x, "watch " + w, UNKNOWN, () -> x.set(w, 0, 0));
        }
        for (int what : new int[] {-1, 3, LOW, HIGH}) {
            refused(x, "what " + what, UNKNOWN, () -> x.set(0, what, 99));
        }

        says(13, "OUTSIDE.");
        for (int i = 0; i < 3; i++) {
            int what = i;
            for (int v : new int[] {-1, most[what] + 1, LOW, HIGH}) {
                refused(x, what + " becomes " + v, OUTSIDE, () -> x.set(0, what, v));
            }
        }
    }

    private static void leewayAndWay() {
        PegWatch x = new PegWatch();
        says(14, "By how many POINTS a heading is made farther from the WIND by SAIL;");
        int[] angles = {6, 7, 8, 11, 12, 16};
        int[][] farther = {{0, 0, 0, 0, 0, 0}, {2, 2, 1, 1, 0, 0}, {1, 1, 0, 0, 0, 0}};
        for (int i = 0; i < angles.length; i++) {
            for (int sail = 0; sail < 3; sail++) {
                due("right " + angles[i] + " SAIL " + sail, x.leeway((30 + angles[i]) % 32, 30, sail), farther[sail][i]);
                due("left " + angles[i] + " SAIL " + sail, x.leeway((34 - angles[i]) % 32, 2, sail), farther[sail][i]);
            }
        }

        says(14, "NONE: nothing is made.");
        due("into the WIND", x.leeway(31, 31, 1), NONE);
        due("5 to the right", x.leeway(4, 31, 2), NONE);
        due("5 to the left", x.leeway(26, 31, 1), NONE);
        due("into the WIND, SAIL 0", x.leeway(31, 31, 0), 0);

        says(14, "UNKNOWN: p, wind;");
        for (int p : new int[] {-1, 32, LOW, HIGH}) {
            refused(x, "p " + p, UNKNOWN, () -> x.leeway(p, 0, 3));
            refused(x, "wind " + p, UNKNOWN, () -> x.leeway(0, p, 3));
        }

        says(14, "OUTSIDE: sail.");
        for (int sail : new int[] {-1, 3, LOW, HIGH}) {
            refused(x, "sail " + sail, OUTSIDE, () -> x.leeway(31, 31, sail));
        }

        says(15, "THE WAY of a WATCH by g and b: side 0 east, 1 north; 2 THE SPREAD.");
        watchAt(x, 0, 1);
        x.peg(0, 7, LOST);
        due("east, bent to the right", x.way(0, 9, 2, 0), 7 * 383 * 109 / 100);
        due("north, bent to the left", x.way(0, -9, -2, 1), 7 * 924 * 91 / 100);
        due("spread", x.way(0, -9, -2, 2), 3000);

        says(15, "-10000001: UNKNOWN: watch,");
        for (int w : new int[] {-1, 1, LOW, HIGH}) {
            refused(x, "watch " + w, -10000001, () -> x.way(w, 0, 0, 0));
            refused(x, "watch " + w + " first", -10000001, () -> x.way(w, 10, 3, 3));
        }

        says(15, "-10000002: OUTSIDE: g, b, side.");
        for (int v : new int[] {-10, 10, LOW, HIGH}) {
            refused(x, "g " + v, -10000002, () -> x.way(0, v, 0, 0));
            refused(x, "b " + v, -10000002, () -> x.way(0, 0, v, 0));
            refused(x, "side " + v, -10000002, () -> x.way(0, 0, 0, v));
        }
        refused(x, "b -3", -10000002, () -> x.way(0, 0, -3, 2));
        refused(x, "b 3", -10000002, () -> x.way(0, 0, 3, 2));
        refused(x, "side -1", -10000002, () -> x.way(0, 0, 0, -1));
        refused(x, "side 3", -10000002, () -> x.way(0, 0, 0, 3));
    }

    private static void miss() {
        says(16, "MISS becomes v: what it was.");
        PegWatch x = new PegWatch();
        due("the least", x.miss(0), 2000);
        due("the greatest", x.miss(20000), 0);
        due("again", x.miss(1), 20000);

        says(16, "OUTSIDE.");
        for (int v : new int[] {-1, 20001, LOW, HIGH}) {
            refused(x, "v " + v, OUTSIDE, () -> x.miss(v));
        }
        due("kept", x.many(8), 1);
    }

    // ---- promises: the chart

    private static void promisesOfTheChart() {
        chart();
        seaAndWeed();
        aboutAndStream();
    }

    private static void chart() {
        says(17, "THE CHART becomes w by h, all DEPTHS 50, no WEED; THE START 0, 0 by 0: w times h.");
        PegWatch x = new PegWatch();
        due("the greatest", x.chart(20, 20), 400);
        x.sea(0, 0, 19, 19, 0);
        x.weed(0, 0, 19, 19, true);
        x.start(19, 19, 20);
        due("the least", x.chart(4, 4), 16);
        for (int cell = 0; cell < 16; cell++) {
            due("DEPTH", x.about(cell % 4, cell / 4, 0), 50);
            due("WEED", x.about(cell % 4, cell / 4, 1), 0);
            due("NEAR", x.about(cell % 4, cell / 4, 2), NONE);
        }
        due("THE START", x.patch(0), 1);
        due("THE START", x.has(0, 0, 0), 1);
        due("as large again", x.chart(20, 20), 400);
        due("nothing is left of the land", x.many(2), 0);
        due("nothing is left of the DEPTHS", x.about(19, 19, 0), 50);
        due("nothing is left of the WEED", x.about(19, 19, 1), 0);
        due("THE START", x.patch(0), 1);

        says(17, "OUTSIDE;");
        for (int side : new int[] {3, 21, 0, -1, LOW, HIGH}) {
            refused(x, "w " + side, OUTSIDE, () -> x.chart(side, 8));
            refused(x, "h " + side, OUTSIDE, () -> x.chart(8, side));
        }

        says(17, "STATE: THE LOG is not empty.");
        x.sign(3, 0, 0);
        refused(x, "a ROW", STATE, () -> x.chart(8, 8));
        refused(x, "as large as it is", STATE, () -> x.chart(20, 20));
        refused(x, "outside first", OUTSIDE, () -> x.chart(3, 8));
        x.count(0, false);
        refused(x, "a ROW that does not COUNT", STATE, () -> x.chart(8, 8));
        x.strike();
        due("empty again", x.chart(8, 9), 72);
        x.watch();
        due("WATCHES do not matter", x.chart(9, 8), 72);
    }

    private static void seaAndWeed() {
        PegWatch x = new PegWatch();
        x.chart(20, 10);
        says(18, "DEPTH of all CELLS from (x1, y1) to (x2, y2) becomes v: how many.");
        due("one, the first", x.sea(0, 0, 0, 0, 99), 1);
        due("one, the last", x.sea(19, 9, 19, 9, 0), 1);
        due("the first", x.about(0, 0, 0), 99);
        due("the last", x.about(19, 9, 0), 0);
        due("some", x.sea(5, 4, 7, 5, 1), 6);
        int[][] in = {{5, 4}, {7, 4}, {5, 5}, {7, 5}};
        int[][] out = {{4, 4}, {8, 5}, {5, 3}, {7, 6}};
        for (int i = 0; i < 4; i++) {
            due("a corner", x.about(in[i][0], in[i][1], 0), 1);
            due("beside a corner", x.about(out[i][0], out[i][1], 0), 50);
        }
        due("all", x.sea(0, 0, 19, 9, 0), 200);
        due("all are land", x.many(2), 200);
        due("a row", x.sea(0, 3, 19, 3, 5), 20);
        due("a column", x.sea(3, 0, 3, 9, 5), 10);

        says(18, "UNKNOWN: corners;");
        corners(x, UNKNOWN, (c, y1, x2, y2) -> x.sea(c, y1, x2, y2, 100));

        says(18, "OUTSIDE: v, x1 above x2, y1 above y2.");
        for (int v : new int[] {-1, 100, LOW, HIGH}) {
            refused(x, "v " + v, OUTSIDE, () -> x.sea(0, 0, 0, 0, v));
        }
        refused(x, "x1 above x2", OUTSIDE, () -> x.sea(1, 0, 0, 9, 7));
        refused(x, "y1 above y2", OUTSIDE, () -> x.sea(0, 1, 19, 0, 7));

        PegWatch y = new PegWatch();
        y.chart(20, 10);
        says(19, "WEED there, or not: how many.");
        due("one, the first", y.weed(0, 0, 0, 0, true), 1);
        due("one, the last", y.weed(19, 9, 19, 9, true), 1);
        due("the last", y.about(19, 9, 1), 1);
        due("some", y.weed(5, 4, 7, 5, true), 6);
        for (int i = 0; i < 4; i++) {
            due("a corner", y.about(in[i][0], in[i][1], 1), 1);
            due("beside a corner", y.about(out[i][0], out[i][1], 1), 0);
        }
        due("where there is some", y.weed(5, 4, 7, 5, true), 6);
        due("not, where there is none", y.weed(9, 9, 9, 9, false), 1);
        due("not", y.weed(6, 4, 7, 5, false), 4);
        due("no more", y.about(6, 4, 1), 0);
        due("still", y.about(5, 5, 1), 1);
        due("all", y.weed(0, 0, 19, 9, true), 200);
        due("DEPTHS stay", y.about(5, 5, 0), 50);
        y.sea(5, 5, 5, 5, 0);
        due("it stays on land", y.about(5, 5, 1), 1);
        y.weed(5, 5, 5, 5, false);
        y.weed(5, 5, 5, 5, true);
        due("it comes on land", y.about(5, 5, 1), 1);

        says(19, "UNKNOWN, OUTSIDE, as sea().");
        corners(y, UNKNOWN, (c, y1, x2, y2) -> y.weed(c, y1, x2, y2, false));
        refused(y, "x1 above x2", OUTSIDE, () -> y.weed(1, 0, 0, 9, false));
        refused(y, "y1 above y2", OUTSIDE, () -> y.weed(0, 1, 19, 0, false));
    }

    /** A call of two corners. */
    private interface Corners {
        int call(int x1, int y1, int x2, int y2);
    }

    /** Each number of the two corners wrong, on a CHART of 20 by 10. */
    private static void corners(PegWatch x, int want, Corners call) {
        int[][] wrongs = {{-1, 20, LOW, HIGH}, {-1, 10, LOW, HIGH}, {-1, 20, LOW, HIGH}, {-1, 10, LOW, HIGH}};
        for (int i = 0; i < 4; i++) {
            for (int v : wrongs[i]) {
                int[] c = {3, 3, 3, 3};
                c[i] = v;
                refused(x, "number " + i + " of the corners is " + v, want, () -> call.call(c[0], c[1], c[2], c[3]));
            }
        }
    }

    private static void aboutAndStream() {
        PegWatch x = new PegWatch();
        x.chart(20, 10);
        x.sea(19, 9, 19, 9, 0);
        x.weed(0, 0, 0, 0, true);
        says(20, "Of a CELL: what = 0 DEPTH, 1 WEED (1, 0), 2 the least r by which it is NEAR (NONE: by none of 0 to 8).");
        due("DEPTH of the first", x.about(0, 0, 0), 50);
        due("DEPTH of the last", x.about(19, 9, 0), 0);
        due("WEED", x.about(0, 0, 1), 1);
        due("no WEED", x.about(19, 9, 1), 0);
        due("NEAR by 0", x.about(19, 9, 2), 0);
        due("NEAR by 1", x.about(18, 9, 2), 1);
        due("NEAR by 8", x.about(11, 1, 2), 8);
        due("by 9", x.about(10, 9, 2), NONE);
        due("by 9", x.about(19, 0, 2), NONE);
        x.sea(10, 1, 10, 1, 0);
        due("the least of two", x.about(11, 1, 2), 1);
        due("the least of two", x.about(18, 9, 2), 1);

        says(20, "UNKNOWN;");
        for (int v : new int[] {-1, 20, LOW, HIGH}) {
            refused(x, "x " + v, UNKNOWN, () -> x.about(v, 0, 3));
        }
        for (int v : new int[] {-1, 10, LOW, HIGH}) {
            refused(x, "y " + v, UNKNOWN, () -> x.about(0, v, 3));
        }

        says(20, "OUTSIDE.");
        for (int what : new int[] {-1, 3, LOW, HIGH}) {
            refused(x, "what " + what, OUTSIDE, () -> x.about(19, 9, what));
        }

        PegWatch y = still(10, 10, 5, 5);
        y.run(y.watch());
        says(21, "THE STREAM: 1.");
        due("the least", y.stream(-20000, -20000, -20000, -20000), 1);
        due("three and two back", y.patch(1), 4);
        due("the greatest", y.stream(20000, 20000, 20000, 20000), 1);
        due("two and three on", y.has(1, 8, 8), 1);
        due("both", y.stream(-20000, 20000, -20000, 20000), 1);
        due("three to each side", y.patch(1), 49);
        due("none", y.stream(0, 0, 0, 0), 1);
        due("like ones", y.stream(7, 7, -7, -7), 1);

        says(21, "OUTSIDE: also e1 above e2, n1 above n2.");
        int[][] bad = {{-20001, 0, 0, 0}, {20001, 20001, 0, 0}, {-20001, -20001, 0, 0}, {0, 20001, 0, 0}, {0, 0, -20001, 0},
            {0, 0, 20001, 20001}, {0, 0, -20001, -20001}, {0, 0, 0, 20001}, {1, 0, 0, 0}, {0, 0, 1, 0}, {-7, -8, 0, 0}, {0, 0, 20000, 19999},
            {LOW, 0, 0, 0}, {0, HIGH, 0, 0}, {0, 0, LOW, 0}, {0, 0, 0, HIGH}, {LOW, HIGH, LOW, HIGH}};
        for (int[] b : bad) {
            refused(y, "stream " + java.util.Arrays.toString(b), OUTSIDE, () -> y.stream(b[0], b[1], b[2], b[3]));
        }
    }

    // ---- promises: the log

    private static void promisesOfTheLog() {
        start();
        run();
        sign();
        countAndStrike();
        row();
        patchAndHas();
        hereAndWas();
    }

    private static void start() {
        PegWatch x = new PegWatch();
        x.chart(20, 10);
        says(22, "THE START: how many CELLS.");
        due("the first CELL", x.start(0, 0, 0), 1);
        due("the last CELL", x.start(19, 9, 0), 1);
        due("is in it", x.has(0, 19, 9), 1);
        due("the most", x.start(19, 9, 20), 200);
        due("cut by the edges", x.start(19, 9, 1), 4);
        x.sea(19, 9, 19, 9, 0);
        due("less land", x.start(19, 9, 1), 3);
        due("land alone", x.start(19, 9, 0), 0);
        fillLog(x);
        due("with a full LOG", x.start(1, 1, 1), 9);

        says(22, "UNKNOWN: x, y;");
        for (int v : new int[] {-1, 20, LOW, HIGH}) {
            refused(x, "x " + v, UNKNOWN, () -> x.start(v, 0, 21));
        }
        for (int v : new int[] {-1, 10, LOW, HIGH}) {
            refused(x, "y " + v, UNKNOWN, () -> x.start(0, v, -1));
        }

        says(22, "OUTSIDE: r is not 0 to 20.");
        for (int r : new int[] {-1, 21, LOW, HIGH}) {
            refused(x, "r " + r, OUTSIDE, () -> x.start(19, 9, r));
        }
        due("kept", x.patch(0), 9);
    }

    private static void run() {
        PegWatch x = new PegWatch();
        says(23, "A WATCH comes as a ROW, COUNTING: how many ROWS.");
        for (int w = 0; w < 24; w++) {
            x.watch();
        }
        due("the last WATCH", x.run(23), 1);
        due("the first WATCH", x.run(0), 2);
        due("is a ROW", x.row(0, 0), 23);
        due("is a ROW", x.row(1, 0), 0);
        due("COUNTS", x.row(1, 4), 1);
        x.count(1, false);
        x.strike();
        due("again, once it was struck", x.run(0), 2);
        due("and COUNTS again", x.row(1, 4), 1);

        says(23, "UNKNOWN;");
        for (int w : new int[] {-1, 24, LOW, HIGH}) {
            refused(x, "watch " + w, UNKNOWN, () -> x.run(w));
        }
        PegWatch y = new PegWatch();
        refused(y, "no WATCH", UNKNOWN, () -> y.run(0));

        says(23, "STATE: it is in THE LOG;");
        refused(x, "the first ROW", STATE, () -> x.run(23));
        refused(x, "the last ROW", STATE, () -> x.run(0));
        x.count(1, false);
        refused(x, "a ROW that does not COUNT", STATE, () -> x.run(0));

        says(23, "FULL.");
        for (int i = 2; i < 39; i++) {
            x.sign(3, 0, 0);
        }
        due("the 40th", x.run(5), 40);
        refused(x, "the 41st", FULL, () -> x.run(6));
        refused(x, "unknown first", UNKNOWN, () -> x.run(24));
        refused(x, "in THE LOG first", STATE, () -> x.run(5));
        x.strike();
        due("room again", x.run(6), 40);
    }

    private static void sign() {
        says(24, "A SIGN likewise (of sorts that need no b, or no a, these are not looked at).");
        PegWatch x = new PegWatch();
        int[][] good = {{0, 0, 0}, {0, 0, 99}, {0, 99, 99}, {1, 0, LOW}, {1, 99, HIGH}, {2, 0, -1}, {2, 8, 9}, {3, LOW, HIGH}, {3, 100, -1},
            {4, 0, 0}, {4, 0, 99}, {4, 99, 99}, {5, 0, HIGH}, {5, 8, 0}};
        for (int i = 0; i < good.length; i++) {
            int[] g = good[i];
            due("sign " + java.util.Arrays.toString(g), x.sign(g[0], g[1], g[2]), i + 1);
            due("sort", x.row(i, 1), g[0]);
            due("a", x.row(i, 2), g[0] == 3 ? 0 : g[1]);
            due("b", x.row(i, 3), g[0] == 0 || g[0] == 4 ? g[2] : 0);
            due("COUNTS", x.row(i, 4), 1);
        }

        says(24, "OUTSIDE: sort is not 0 to 5;");
        for (int sort : new int[] {-1, 6, LOW, HIGH}) {
            refused(x, "sort " + sort, OUTSIDE, () -> x.sign(sort, 0, 0));
        }

        says(24, "a, b (0 to 99; 0 to 8 for NEAR; a at most b);");
        int[][] bad = {{0, -1, 0}, {0, 0, -1}, {0, -1, -1}, {0, 100, 100}, {0, 0, 100}, {0, 1, 0}, {0, 99, 98}, {0, LOW, HIGH}, {1, -1, 0},
            {1, 100, 0}, {1, LOW, 0}, {1, HIGH, 0}, {2, -1, 0}, {2, 9, 0}, {2, 9, 9}, {2, HIGH, 0}, {4, -1, 0}, {4, 0, -1}, {4, 100, 100},
            {4, 0, 100}, {4, 1, 0}, {4, 99, 98}, {4, LOW, HIGH}, {5, -1, 0}, {5, 9, 0}, {5, 9, 99}, {5, LOW, 0}};
        for (int[] b : bad) {
            refused(x, "sign " + java.util.Arrays.toString(b), OUTSIDE, () -> x.sign(b[0], b[1], b[2]));
        }

        says(24, "FULL.");
        for (int i = good.length + 1; i <= 40; i++) {
            due("sign", x.sign(3, 0, 0), i);
        }
        refused(x, "the 41st", FULL, () -> x.sign(3, 0, 0));
        refused(x, "outside first", OUTSIDE, () -> x.sign(0, 1, 0));
        x.strike();
        due("room again", x.sign(3, 0, 0), 40);
    }

    private static void countAndStrike() {
        PegWatch x = still(8, 8, 0, 0);
        says(25, "A ROW COUNTS, or not: 1 if it did, else 0.");
        for (int i = 0; i < 40; i++) {
            x.sign(4, 0, 0);
        }
        for (int row : new int[] {0, 39}) {
            due("it did, and does", x.count(row, true), 1);
            due("it did, and does not", x.count(row, false), 1);
            due("it did not, and does not", x.count(row, false), 0);
            due("it did not, and does", x.count(row, true), 0);
        }
        x.count(0, false);
        due("the next one does", x.row(1, 4), 1);
        due("the last one does", x.row(39, 4), 1);

        says(25, "UNKNOWN.");
        for (int row : new int[] {-1, 40, LOW, HIGH}) {
            refused(x, "row " + row, UNKNOWN, () -> x.count(row, false));
        }
        PegWatch y = new PegWatch();
        refused(y, "no ROW", UNKNOWN, () -> y.count(0, true));

        says(26, "The last ROW is gone: how many are left.");
        for (int left = 39; left >= 0; left--) {
            due("strike", x.strike(), left);
        }
        due("none", x.many(1), 0);
        x.sign(4, 7, 7);
        x.sign(4, 0, 0);
        due("one is left", x.strike(), 1);
        due("the first one", x.row(0, 2), 7);
        due("the last one is gone", x.row(1, 2), UNKNOWN);
        x.strike();
        due("a SIGN that is gone cuts nothing", x.patch(0), 1);

        says(26, "STATE: there is none.");
        refused(x, "none is left", STATE, () -> x.strike());
        refused(y, "there never was one", STATE, () -> y.strike());
    }

    private static void row() {
        PegWatch x = new PegWatch();
        x.watch();
        x.watch();
        says(27, "Of a ROW: what = 0 the WATCH (NONE for a SIGN), 1 the sort (NONE for a WATCH), 2 a, 3 b (0 where not looked at),"
                + " 4 COUNTING (1, 0).");
        int[][] rows = {{1, NONE, 0, 0, 1}, {NONE, 0, 0, 99, 1}, {NONE, 1, 99, 0, 1}, {NONE, 2, 8, 0, 1}, {NONE, 3, 0, 0, 1},
            {NONE, 4, 98, 99, 1}, {NONE, 5, 8, 0, 0}, {0, NONE, 0, 0, 0}};
        for (int[] r : rows) {
            if (r[0] == NONE) {
                x.sign(r[1], r[1] == 3 ? 55 : r[2], r[1] == 0 || r[1] == 4 ? r[3] : 66);
            } else {
                x.run(r[0]);
            }
            x.count(x.many(1) - 1, r[4] == 1);
        }
        for (int i = 0; i < rows.length; i++) {
            for (int what = 0; what < 5; what++) {
                due("row(" + i + ", " + what + ")", x.row(i, what), rows[i][what]);
            }
        }

        says(27, "UNKNOWN;");
        for (int row : new int[] {-1, 8, 40, LOW, HIGH}) {
            refused(x, "row " + row, UNKNOWN, () -> x.row(row, 5));
        }

        says(27, "OUTSIDE.");
        for (int what : new int[] {-1, 5, LOW, HIGH}) {
            refused(x, "what " + what, OUTSIDE, () -> x.row(7, what));
        }
        for (int i = 0; i < 8; i++) {
            x.strike();
        }
        refused(x, "a ROW that is gone", UNKNOWN, () -> x.row(0, 0));
        x.sign(3, 9, 9);
        says(27, "Of a ROW: what = 0 the WATCH (NONE for a SIGN), 1 the sort (NONE for a WATCH), 2 a, 3 b (0 where not looked at),");
        due("no WATCH is left in its place", x.row(0, 0), NONE);
        x.strike();
        x.sign(0, 5, 6);
        x.strike();
        x.run(0);
        due("no sort is left in its place", x.row(0, 1), NONE);
        due("no a is left in its place", x.row(0, 2), 0);
        due("no b is left in its place", x.row(0, 3), 0);
    }

    private static void patchAndHas() {
        PegWatch x = still(20, 10, 19, 9);
        for (int i = 0; i < 40; i++) {
            x.sign(4, 0, i < 39 ? 9 : 8);
        }
        says(28, "How many CELLS what THE PATCH is behind ROW t has (0 to ROWS).");
        due("THE START", x.patch(0), 1);
        due("ahead of the last ROW", x.patch(39), 1);
        due("behind the last ROW", x.patch(40), 0);
        due("no ROWS", new PegWatch().patch(0), 1);
        due("the most", anywhere(20, 20).patch(0), 400);

        says(28, "UNKNOWN: t.");
        for (int t : new int[] {-1, 41, LOW, HIGH}) {
            refused(x, "t " + t, UNKNOWN, () -> x.patch(t));
        }
        PegWatch y = new PegWatch();
        refused(y, "no ROWS", UNKNOWN, () -> y.patch(1));

        says(29, "Whether a CELL is in it: 1, 0.");
        due("in THE START", x.has(0, 19, 9), 1);
        due("beside THE START", x.has(0, 18, 9), 0);
        due("ahead of the last ROW", x.has(39, 19, 9), 1);
        due("behind the last ROW", x.has(40, 19, 9), 0);
        due("the first CELL", x.has(0, 0, 0), 0);
        due("the first CELL", y.has(0, 0, 0), 1);

        says(29, "UNKNOWN: t, x, y.");
        for (int t : new int[] {-1, 41, LOW, HIGH}) {
            refused(x, "t " + t, UNKNOWN, () -> x.has(t, 19, 9));
        }
        for (int v : new int[] {-1, 20, LOW, HIGH}) {
            refused(x, "x " + v, UNKNOWN, () -> x.has(0, v, 9));
        }
        for (int v : new int[] {-1, 10, LOW, HIGH}) {
            refused(x, "y " + v, UNKNOWN, () -> x.has(0, 19, v));
        }
    }

    private static void hereAndWas() {
        PegWatch x = still(20, 10, 18, 8);
        x.start(18, 8, 1);
        for (int i = 0; i < 40; i++) {
            x.sign(4, 0, i < 39 ? 9 : 8);
        }
        says(30, "HERE, behind ROW t: how many CELLS.");
        due("THE START: those that stay", x.here(0), 6);
        due("ahead of the last ROW", x.here(39), 6);
        due("THE PATCH there", x.patch(39), 9);
        due("behind the last ROW", x.here(40), 6);
        due("no ROWS: THE START", new PegWatch().here(0), 1);
        PegWatch y = new PegWatch();
        y.sea(0, 0, 0, 0, 0);
        due("THE START is land", y.here(0), 0);

        says(30, "UNKNOWN.");
        for (int t : new int[] {-1, 41, LOW, HIGH}) {
            refused(x, "t " + t, UNKNOWN, () -> x.here(t));
        }

        says(31, "Whether a CELL is HERE: 1, 0.");
        due("stays", x.was(0, 19, 8), 1);
        due("is cut at last", x.was(0, 19, 9), 0);
        due("is cut at last, THE PATCH has it", x.has(39, 19, 9), 1);
        due("is cut at last", x.was(39, 19, 9), 0);
        due("at the end", x.was(40, 17, 7), 1);
        due("never was there", x.was(0, 16, 7), 0);
        due("THE START is land", y.was(0, 0, 0), 0);

        says(31, "UNKNOWN: t, x, y.");
        for (int t : new int[] {-1, 41, LOW, HIGH}) {
            refused(x, "t " + t, UNKNOWN, () -> x.was(t, 19, 9));
        }
        for (int v : new int[] {-1, 20, LOW, HIGH}) {
            refused(x, "x " + v, UNKNOWN, () -> x.was(0, v, 9));
        }
        for (int v : new int[] {-1, 10, LOW, HIGH}) {
            refused(x, "y " + v, UNKNOWN, () -> x.was(0, 19, v));
        }
    }

    // ---- promises: what is wrong, landfall

    private static void promisesOfWhatIsWrong() {
        PegWatch x = still(8, 8, 0, 0);
        x.sign(4, 5, 5);
        says(32, "How many are BLAMED (ROWS, or pairs).");
        due("a ROW", x.blamed(), 1);
        x.sign(4, 6, 6);
        due("a pair", x.blamed(), 1);
        x.sign(4, 7, 7);
        due("none", x.blamed(), 0);

        says(33, "The i-th of them: a ROW, or of a pair (the lesser ROW first; in order of it, then of the other one) 100 times the"
                + " lesser one and 1, and the other one;");
        x.strike();
        due("a pair", x.blame(0), 101);
        x.strike();
        due("a ROW", x.blame(0), 0);

        says(33, "NONE.");
        due("behind the last", x.blame(1), NONE);
        due("below the first", x.blame(-1), NONE);
        due("far behind", x.blame(HIGH), NONE);
        due("far below", x.blame(LOW), NONE);
        due("each was done", x.many(9), 9);

        says(32, "STATE: THE PATCH is not empty, or it was done 20 times with blame().");
        x.count(0, false);
        refused(x, "it is not empty", STATE, () -> x.blamed());
        says(33, "STATE, as blamed().");
        refused(x, "it is not empty", STATE, () -> x.blame(0));
        x.count(0, true);
        for (int i = 9; i < 20; i++) {
            due("the " + (i + 1) + "th", i % 2 == 0 ? x.blamed() : x.blame(0), i % 2 == 0 ? 1 : 0);
        }
        due("done", x.many(9), 20);
        refused(x, "the 21st", STATE, () -> x.blame(0));
        refused(x, "the 21st, of none", STATE, () -> x.blame(-1));
        says(32, "STATE: THE PATCH is not empty, or it was done 20 times with blame().");
        refused(x, "the 21st", STATE, () -> x.blamed());
        refusedAreNotDone();
    }

    private static void refusedAreNotDone() {
        PegWatch x = still(8, 8, 0, 0);
        for (int i = 0; i < 21; i++) {
            x.blamed();
            x.blame(0);
        }
        due("none was done", x.many(9), 0);
        x.sign(4, 5, 5);
        for (int i = 0; i < 20; i++) {
            due("blamed() alone", x.blamed(), 1);
        }
        due("the 21st", x.blamed(), STATE);
        PegWatch y = still(8, 8, 0, 0);
        y.sign(4, 5, 5);
        for (int i = 0; i < 20; i++) {
            due("blame() alone", y.blame(1), NONE);
        }
        due("the 21st", y.blame(0), STATE);
        due("the 21st", y.blamed(), STATE);
        due("the others may still be done", y.fits(0, 0), 0);
        due("the others may still be done", y.many(4), 1);
    }

    private static void promisesOfLandfall() {
        PegWatch x = still(20, 10, 19, 9);
        says(34, "How many FITS there are.");
        due("all", x.fits(19, 9), 475);
        due("none", x.fits(0, 0), 0);

        says(35, "The i-th FIT: 100 times (g and 9), and 10 times m, and b and 2;");
        due("the first", x.fit(19, 9, 0), 0);
        due("the last", x.fit(19, 9, 474), 1854);
        due("GLASS 0", x.fit(19, 9, 9 * 25), 900);

        says(35, "NONE.");
        due("behind the last", x.fit(19, 9, 475), NONE);
        due("below the first", x.fit(19, 9, -1), NONE);
        due("far behind", x.fit(19, 9, HIGH), NONE);
        due("far below", x.fit(19, 9, LOW), NONE);
        due("of none", x.fit(0, 0, 0), NONE);
        due("each was done", x.many(4), 10);

        says(34, "UNKNOWN: x, y;");
        for (int v : new int[] {-1, 20, LOW, HIGH}) {
            refused(x, "x " + v, UNKNOWN, () -> x.fits(v, 0));
        }
        for (int v : new int[] {-1, 10, LOW, HIGH}) {
            refused(x, "y " + v, UNKNOWN, () -> x.fits(0, v));
        }
        says(35, "UNKNOWN;");
        for (int v : new int[] {-1, 20, LOW, HIGH}) {
            refused(x, "x " + v, UNKNOWN, () -> x.fit(v, 0, 0));
        }
        for (int v : new int[] {-1, 10, LOW, HIGH}) {
            refused(x, "y " + v, UNKNOWN, () -> x.fit(0, v, 0));
        }

        says(34, "STATE: it was done 20 times with fit().");
        for (int i = 10; i < 20; i++) {
            due("the " + (i + 1) + "th", i % 2 == 0 ? x.fits(19, 9) : x.fit(19, 9, 1), i % 2 == 0 ? 475 : 1);
        }
        due("done", x.many(4), 20);
        refused(x, "the 21st", STATE, () -> x.fits(19, 9));
        refused(x, "unknown first", UNKNOWN, () -> x.fits(20, 9));
        says(35, "STATE, as fits().");
        refused(x, "the 21st", STATE, () -> x.fit(19, 9, 0));
        refused(x, "the 21st, of none", STATE, () -> x.fit(19, 9, -1));
        refused(x, "unknown first", UNKNOWN, () -> x.fit(19, 10, 0));
        PegWatch y = new PegWatch();
        for (int i = 0; i < 20; i++) {
            due("fit() alone", y.fit(0, 0, i), new int[] {0, 1, 2, 3, 4, 10, 11, 13, 14, 20, 21, 23, 24, 30, 31, 33, 34, 40, 41, 43}[i]);
        }
        due("the 21st", y.fit(0, 0, 0), STATE);
        due("the 21st", y.fits(0, 0), STATE);
        due("the others may still be done", y.course(1, 1, 0, 0), NONE);
        due("the others may still be done", y.many(5), 1);
    }

    // ---- promises: courses

    private static void promisesOfCourses() {
        sights();
        sure();
        course();
    }

    /** A call with v, T, D, R. */
    private interface Sailing {
        int call(int v, int t, int d, int r);
    }

    private static void outsideOfCourses(PegWatch x, Sailing call) {
        int[][] wrongs = {{0, 13, -1, LOW, HIGH}, {0, 97, -1, LOW, HIGH}, {-1, 48, LOW, HIGH}, {-1, 9, LOW, HIGH}};
        for (int i = 0; i < 4; i++) {
            for (int v : wrongs[i]) {
                int[] c = {1, 1, 0, 0};
                c[i] = v;
                refused(x, "v, T, D, R " + java.util.Arrays.toString(c), OUTSIDE, () -> call.call(c[0], c[1], c[2], c[3]));
            }
        }
    }

    private static void sights() {
        PegWatch x = still(20, 10, 0, 9);
        x.sea(19, 9, 19, 9, 0);
        says(36, "At which t a COURSE is SIGHTED first from a CELL without being AGROUND up to it;");
        due("the most of T, the least of v", x.sights(0, 9, 8, 1, 96, 1, 7), 96);
        due("the most of v", x.sights(0, 9, 8, 12, 96, 0, 7), 8);
        due("the most of R", x.sights(0, 9, 8, 12, 96, 0, 8), 8);
        due("the most of D", x.sights(0, 9, 8, 12, 96, 47, 8), 8);
        x.sea(1, 9, 1, 9, 0);
        due("the least of T, the greatest POINT", x.sights(0, 9, 15, 1, 1, 0, 8), 0);
        x.sea(1, 9, 1, 9, 50);
        x.sea(0, 5, 0, 5, 0);
        due("the least of T", x.sights(0, 9, 16, 1, 1, 0, 4), 1);

        says(36, "0: not up to T (1 to 96).");
        due("no land that way", x.sights(0, 9, 0, 12, 96, 0, 8), 0);
        due("AGROUND", x.sights(0, 9, 16, 8, 96, 24, 1), 0);
        x.sea(0, 5, 0, 5, 50);
        due("at 96, T 96", x.sights(0, 9, 8, 1, 96, 1, 7), 96);
        due("at 96, T 95", x.sights(0, 9, 8, 1, 95, 1, 7), 0);
        x.sea(0, 5, 0, 5, 0);

        says(36, "UNKNOWN: x, y;");
        for (int v : new int[] {-1, 20, LOW, HIGH}) {
            refused(x, "x " + v, UNKNOWN, () -> x.sights(v, 9, 32, 0, 0, 48, 9));
        }
        for (int v : new int[] {-1, 10, LOW, HIGH}) {
            refused(x, "y " + v, UNKNOWN, () -> x.sights(0, v, 32, 0, 0, 48, 9));
        }

        says(36, "OUTSIDE: p, v (1 to 12), T, D (0 to 47), R (0 to 8);");
        for (int p : new int[] {-1, 32, LOW, HIGH}) {
            refused(x, "p " + p, OUTSIDE, () -> x.sights(19, 9, p, 1, 1, 0, 0));
        }
        outsideOfCourses(x, (v, t, d, r) -> x.sights(19, 9, 31, v, t, d, r));

        says(36, "STATE: the CELL is not in THE PATCH.");
        refused(x, "beside it", STATE, () -> x.sights(1, 9, 31, 12, 96, 47, 8));
        refused(x, "land", STATE, () -> x.sights(19, 9, 0, 1, 1, 0, 0));
        x.sign(4, 0, 8);
        refused(x, "in THE START, but cut", STATE, () -> x.sights(0, 9, 0, 1, 1, 0, 0));
        x.count(0, false);
        due("no more cut", x.sights(0, 9, 16, 1, 1, 0, 4), 1);

        says(36, "At which t a COURSE is SIGHTED first from a CELL without being AGROUND up to it;");
        x.start(19, 0, 20);
        due("not from all CELLS", x.sure(16, 1, 1, 0, 4), 0);
        due("from this one CELL alone", x.sights(0, 9, 16, 1, 1, 0, 4), 1);
    }

    private static void sure() {
        PegWatch x = still(20, 10, 0, 9);
        x.sea(19, 9, 19, 9, 0);
        says(37, "Whether it IS SURE: the greatest of these t;");
        due("96", x.sure(8, 1, 96, 1, 7), 96);
        x.start(1, 8, 1);
        due("the greatest of nine", x.sure(8, 12, 96, 0, 7), 8);

        says(37, "0: it is not.");
        due("not up to T", x.sure(8, 12, 7, 0, 7), 0);
        x.sea(2, 4, 2, 4, 0);
        due("the least t", x.sure(16, 1, 1, 0, 5), 1);
        due("the other way", x.sure(0, 1, 1, 0, 5), 0);
        due("by night", x.sure(16, 1, 24, 24, 5), 0);

        says(37, "OUTSIDE;");
        for (int p : new int[] {-1, 32, LOW, HIGH}) {
            refused(x, "p " + p, OUTSIDE, () -> x.sure(p, 1, 1, 0, 0));
        }
        outsideOfCourses(x, (v, t, d, r) -> x.sure(31, v, t, d, r));

        says(37, "STATE: THE PATCH is empty.");
        x.sign(4, 0, 0);
        refused(x, "cut", STATE, () -> x.sure(31, 12, 96, 47, 8));
        refused(x, "outside first", OUTSIDE, () -> x.sure(32, 12, 96, 47, 8));
        x.strike();
        x.sea(0, 7, 2, 9, 0);
        refused(x, "THE START is land", STATE, () -> x.sure(0, 1, 1, 0, 0));
    }

    private static void course() {
        PegWatch x = still(11, 5, 5, 2);
        x.sea(0, 2, 0, 2, 0);
        x.sea(10, 2, 10, 2, 0);
        says(38, "The POINT that IS SURE with the least t, of like ones the least POINT;");
        due("east and west alike", x.course(8, 96, 0, 1), 8);
        x.start(4, 2, 0);
        due("west sooner", x.course(8, 96, 0, 1), 24);
        due("all alike at once", x.course(1, 1, 0, 8), 0);
        x.sea(4, 3, 4, 3, 0);
        due("those before it go AGROUND", x.course(1, 1, 0, 8), 8);
        x.sea(4, 3, 4, 3, 50);

        says(38, "NONE.");
        due("not up to T", x.course(8, 2, 0, 1), NONE);
        due("just up to T", x.course(8, 3, 0, 1), 24);
        due("by night", x.course(8, 24, 24, 1), NONE);
        due("by R 0", x.course(8, 96, 0, 0), NONE);
        due("each was done", x.many(5), 8);

        says(38, "OUTSIDE: v, T, D, R;");
        outsideOfCourses(x, (v, t, d, r) -> x.course(v, t, d, r));

        says(38, "STATE: as sure(), or it was done 20 times.");
        x.sign(4, 0, 0);
        refused(x, "cut", STATE, () -> x.course(12, 96, 47, 8));
        refused(x, "outside first", OUTSIDE, () -> x.course(13, 96, 47, 8));
        x.strike();
        for (int i = 8; i < 20; i++) {
            due("the " + (i + 1) + "th", x.course(8, 96, 0, 1), 24);
        }
        due("done", x.many(5), 20);
        refused(x, "the 21st", STATE, () -> x.course(8, 96, 0, 1));
        refused(x, "outside first", OUTSIDE, () -> x.course(8, 97, 0, 1));
        due("sure() may still be done", x.sure(24, 8, 96, 0, 1), 3);
        due("sights() may still be done", x.sights(4, 2, 24, 8, 96, 0, 1), 3);
        due("the others may still be done", x.fits(4, 2), 475);
    }

    // ---- promises: what is told

    private static void promisesOfWhatIsTold() {
        many();
        digest();
        the512thCall();
    }

    private static void many() {
        says(39, "How many: 0 WATCHES, 1 ROWS, 2 land CELLS, 3 WORDS, 4 how often fits() and fit(), 5 course() was done, 6 w, 7 h, 8 MISS,"
                + " 9 how often blamed() and blame() were done.");
        PegWatch x = new PegWatch();
        x.chart(20, 19);
        x.miss(20000);
        for (int i = 0; i < 24; i++) {
            x.watch();
            x.word(0);
        }
        for (int i = 0; i < 20; i++) {
            due("course", x.course(1, 1, 0, 0), NONE);
        }
        x.sea(0, 0, 19, 18, 0);
        for (int i = 0; i < 10; i++) {
            x.fits(0, 0);
            x.fit(0, 0, 0);
            x.blamed();
            x.blame(0);
        }
        fillLog(x);
        int[] most = {24, 40, 380, 24, 20, 20, 20, 19, 20000, 20};
        for (int what = 0; what < 10; what++) {
            due("the most of " + what, x.many(what), most[what]);
        }

        says(39, "OUTSIDE.");
        for (int what : new int[] {-1, 10, LOW, HIGH}) {
            refused(x, "what " + what, OUTSIDE, () -> x.many(what));
        }
    }

    private static void digest() {
        says(40, "h is 199, then for each of these numbers, in order, 31 times h, and it (as longs, wrapping): WORDS; of each WATCH PEGS,"
                + " KNOTS, HELMSMAN, WIND, SAIL; w, h; of each CELL by y, then x, DEPTH, 1 if WEED, else 0; e1, e2, n1, n2, MISS; x, y, r"
                + " of THE START; of each ROW what row() tells for 0 to 4; how many CELLS THE PATCH has; what many() tells for 4, 5, 9.");
        PegWatch x = new PegWatch();
        due("it changes nothing", x.digest(), x.digest());
        x.chart(20, 4);
        long h = 199;
        for (int i = 0; i < 24; i++) {
            x.word(999 - i);
            h = fold(h, 999 - i);
        }
        for (int w = 0; w < 24; w++) {
            x.watch();
            x.peg(w, 0, w);
            x.peg(w, 7, 31 - w);
            x.knots(w, 0, w % 13);
            x.knots(w, 3, 12);
            x.set(w, 0, w % 6);
            x.set(w, 1, 31 - w);
            x.set(w, 2, w % 3);
            h = fold(h, w, -1, -1, -1, -1, -1, -1, 31 - w, w % 13, 0, 0, 12, w % 6, 31 - w, w % 3);
        }
        x.sea(19, 0, 19, 0, 0);
        x.weed(0, 1, 0, 1, true);
        x.sea(0, 3, 0, 3, 99);
        h = fold(h, 20, 4);
        for (int cell = 0; cell < 80; cell++) {
            h = fold(h, cell == 19 ? 0 : cell == 60 ? 99 : 50, cell == 20 ? 1 : 0);
        }
        x.stream(-20000, -19999, 19998, 20000);
        x.miss(17);
        x.start(18, 1, 20);
        h = fold(h, -20000, -19999, 19998, 20000, 17, 18, 1, 20);
        x.fit(0, 0, 0);
        x.fits(0, 0);
        x.fits(0, 0);
        x.course(1, 1, 0, 0);
        x.sign(4, 4, 99);
        x.blamed();
        x.blame(0);
        h = fold(h, -1, 4, 4, 99, 0);
        x.count(0, false);
        for (int i = 1; i < 40; i++) {
            x.sign(i % 3 == 0 ? 3 : 1, i % 3 == 0 ? 77 : i, 88);
            x.count(i, i % 3 != 0);
            h = fold(h, -1, i % 3 == 0 ? 3 : 1, i % 3 == 0 ? 0 : i, 0, i % 3 == 0 ? 0 : 1);
        }
        due("of nearly all", x.digest(), fold(h, 79, 3, 1, 2));
    }

    private static void the512thCall() {
        says(TERMS, "An object is used for at most 512 calls after it has been made;");
        PegWatch x = island();
        x.run(watchAt(x, 8, 1));
        fillLog(x);
        for (int i = 0; i < 500 - 18 - 80; i++) {
            x.patch(40);
        }
        due("still there", x.patch(40), 1);
        due("still there", x.has(40, 2, 2), 1);
        due("still there", x.sights(2, 2, 8, 8, 96, 0, 2), 4);
        due("still there", x.fits(2, 2), 475);
        due("still there", x.course(8, 96, 0, 2), 8);
        due("still there", x.strike(), 39);
        due("still there", x.many(1), 39);
    }

    // ---- what holds for all

    /** Every call with numbers far off, in several states: the document knows no exception. */
    private static void noCallThrows() throws IllegalAccessException {
        sentence = "no call throws";
        int[] wild = {LOW, -1, 0, 1, HIGH};
        for (Method method : PegWatch.class.getDeclaredMethods()) {
            if (Modifier.isPublic(method.getModifiers())) {
                int many = method.getParameterCount();
                int combinations = (int) Math.pow(wild.length, Math.min(many, 5));
                PegWatch x = null;
                for (int c = 0; c < combinations; c++) {
                    if (c % 100 == 0) {
                        x = inState(c / 100 % 3);
                    }
                    callWildly(x, method, wild, c);
                }
            }
        }
    }

    private static PegWatch inState(int which) {
        PegWatch x = new PegWatch();
        if (which > 0) {
            x = island();
            x.run(watchAt(x, 8, 1));
            x.watch();
        }
        if (which > 1) {
            fillLog(x);
            x.sea(0, 0, 9, 5, 0);
        }
        return x;
    }

    private static void callWildly(PegWatch x, Method method, int[] wild, int combination) throws IllegalAccessException {
        Class<?>[] types = method.getParameterTypes();
        Object[] args = new Object[types.length];
        int rest = combination;
        for (int i = 0; i < args.length; i++) {
            int drawn = wild[i < 5 ? rest % wild.length : combination % wild.length];
            args[i] = types[i] == boolean.class ? (Object) (drawn > 0) : (Object) drawn;
            rest /= wild.length;
        }
        try {
            method.invoke(x, args);
        } catch (InvocationTargetException e) {
            fail(method.getName() + java.util.Arrays.toString(args) + " threw " + e.getCause());
        }
    }

    // ---- the quotes

    private static void holdQuotesAgainstTheDocument() throws IOException {
        Path path = Path.of("../shared/DOC.md");
        if (!Files.isReadable(path)) {
            System.out.println("(the document is not at " + path + ": the quotes are not held against it)");
            return;
        }
        String document = Files.readString(path).replaceAll("```(text|java)?", " ").replaceAll("={4,} \\d", " ").replaceAll("\\s+", " ");
        String terms = document.substring(document.indexOf("## Terms") + 8, document.indexOf("Ahead of the calls"));
        holdQuotes("terms", terms, document, QUOTES.get(TERMS));
        for (int promise = 1; promise <= PROMISES; promise++) {
            int from = document.indexOf("## Promise " + promise + ":");
            int to = document.indexOf("##", from + 2);
            String section = document.substring(document.indexOf("`: ", from) + 3, to);
            holdQuotes("promise " + promise, section, section, QUOTES.getOrDefault(promise, List.of()));
        }
    }

    /** All quotes stand in the text, and nothing but stops of it stands outside of them. */
    private static void holdQuotes(String where, String text, String quoted, List<String> quotes) {
        sentence = where;
        boolean[] tested = new boolean[text.length()];
        for (String quote : quotes) {
            if (!quoted.contains(quote)) {
                fail("the document does not say \"" + quote + "\"");
            }
            for (int at = text.indexOf(quote); at >= 0; at = text.indexOf(quote, at + 1)) {
                java.util.Arrays.fill(tested, at, at + quote.length(), true);
            }
        }
        StringBuilder left = new StringBuilder();
        for (int i = 0; i < tested.length; i++) {
            left.append(tested[i] ? ' ' : text.charAt(i));
        }
        String untested = left.toString().replaceAll("[\\s.,;:]+", " ").trim();
        if (!untested.isEmpty()) {
            fail("without a test is \"" + untested + "\"");
        }
    }
}
