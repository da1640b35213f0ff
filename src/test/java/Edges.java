import java.lang.reflect.InvocationTargetException;
import java.lang.reflect.Method;
import java.lang.reflect.Modifier;
import java.math.BigInteger;
import java.util.ArrayList;
import java.util.Arrays;
import java.util.HashMap;
import java.util.List;
import java.util.Map;
import java.util.NoSuchElementException;

/**
 * The edges that the document names: a test of its own for each sentence of the terms and of the promises that
 * tells of one (too small, too large, empty, full, a wrap-around, a refused call). Each tries the last value
 * inside and the first one outside, looks at what is answered there, and at what stays as it was.
 *
 * <p>What stays is looked at from outside: two objects are made alike, the call goes to one of them, and then
 * both are asked for all they can tell, down to what undo() and again() bring back.
 */
public final class Edges {
    private static int wrong = 0;
    private static int edges = 0;
    private static String sentence = "";

    /** A call, with its answer; of a boolean 1 or 0. */
    private interface Call {
        long of(InkFolds x);
    }

    private interface Maker {
        InkFolds make();
    }

    private static void edge(String says, Runnable test) {
        sentence = says;
        edges++;
        test.run();
    }

    private static void fault(String what) {
        wrong++;
        System.out.println(sentence + ": " + what);
    }

    private static void due(String what, long got, long want) {
        if (got != want) {
            fault(what + " answered " + got + ", due is " + want);
        }
    }

    private static void yes(String what, boolean got) {
        due(what, got ? 1 : 0, 1);
    }

    private static void no(String what, boolean got) {
        due(what, got ? 1 : 0, 0);
    }

    private static void row(InkFolds x, long... want) {
        due("numbers of the ROW", x.count(10), want.length);
        for (int i = 0; i < want.length && i < x.count(10); i++) {
            due("number " + i + " of the ROW", x.row(i), want[i]);
        }
    }

    private static int thrown(Runnable call) {
        try {
            call.run();
        } catch (NoSuchElementException e) {
            return 1;
        }
        return 0;
    }

    // ---- objects

    /** Puts THE TEXT to these signs. */
    private static InkFolds say(InkFolds x, String s) {
        x.end(0);
        for (int p = 0; p < s.length(); p += 4) {
            int four = 0;
            for (int i = p; i < p + 4; i++) {
                four = four << 8 | (i < s.length() ? s.charAt(i) : 0);
            }
            x.sign(four);
        }
        x.end(s.length());
        return x;
    }

    private static InkFolds fresh() {
        return new InkFolds();
    }

    /** Nothing is as at first, ten changes can be undone, two states are kept. */
    private static InkFolds full() {
        InkFolds x = new InkFolds();
        x.sets(0, 30);
        x.sets(1, 3);
        x.sets(2, 77);
        x.sets(3, 7);
        x.sets(5, 3);
        say(x, "001133456").curve(1);
        say(x, "lg2").link();
        say(x, "hgfedcba").picture();
        x.keep(0);
        say(x, "11115040302222010204").patches();
        x.paints(0, 400, 390, 380);
        x.keep(1);
        x.measure(27, 55, 88, 91);
        x.paints(7, 30, 200, 170);
        say(x, "112233668").curve(3);
        say(x, "pv").link();
        say(x, "abcdefgh/hgfedcba").picture();
        x.measure(13, 50, 51, 52);
        x.sets(6, 2);
        say(x, "t6g1").day();
        x.forgets(80);
        x.sheet(2, 27, 20, 3);
        x.colour(1234);
        return say(x, "01234");
    }

    /** Some changes can be undone, one state is kept. */
    private static InkFolds half() {
        InkFolds x = new InkFolds();
        x.sets(0, 20);
        say(x, "1111504030").patches();
        x.keep(1);
        say(x, "000000008").curve(0);
        say(x, "ac1vl").link();
        say(x, "ab/cd").picture();
        x.paints(2, 100, 200, 300);
        x.match(1, 2, 3);
        return say(x, "0");
    }

    private static final Maker FRESH = Edges::fresh;
    private static final Maker HALF = Edges::half;
    private static final Maker FULL = Edges::full;
    private static final Maker[] ALL = {FRESH, HALF, FULL};

    /** All LIGHT is 100: all COLOURS are 400, 400, 400. */
    private static InkFolds white() {
        InkFolds x = new InkFolds();
        x.sheet(3, 0, 0, 0);
        return x;
    }

    /** An ink darkens, by 50 for each AMOUNT, in all BANDS; no black is wished. */
    private static InkFolds stairs(int ink) {
        InkFolds x = white();
        int patch = new int[] {27, 9, 3, 1}[ink];
        x.measure(patch, 50, 50, 50);
        x.measure(2 * patch, 0, 0, 0);
        x.sets(1, 0);
        return x;
    }

    private static InkFolds linked(String... links) {
        InkFolds x = new InkFolds();
        for (String s : links) {
            say(x, s).link();
        }
        return x;
    }

    // ---- what an object tells

    private static void tellCounts(InkFolds x, List<Long> all) {
        for (int what = 0; what <= 8; what++) {
            all.add((long) x.count(what));
        }
        for (int what = 12; what <= 14; what++) {
            all.add((long) x.count(what));
        }
        int[] patches = {0, 1, 18, 27, 13, 40, 80};
        for (int i = 0; i < patches.length; i++) {
            all.add((long) x.light(patches[i], i % 3));
        }
        all.add((long) x.bent(0, 7));
        all.add((long) x.bent(1, 5));
        all.add((long) x.bent(3, 6));
        all.add((long) x.through(7654));
    }

    private static void tellRow(InkFolds x, List<Long> all) {
        int numbers = x.count(10);
        all.add((long) numbers);
        for (int i = 0; i < numbers; i++) {
            all.add(x.row(i));
        }
    }

    /** All that it tells, but for the ROW that it has; it is not to be used behind that. */
    private static List<Long> told(InkFolds x) {
        List<Long> all = new ArrayList<>();
        tellCounts(x, all);
        all.add((long) x.count(9));
        all.add((long) x.count(11));
        // tells how many of its signs are 0 .. 8 and never fall
        all.add((long) x.curve(4));
        for (int patch = 0; patch < 81; patch += 2) {
            all.add((long) x.light(patch, patch % 3));
        }
        for (int i = 0; i < 36; i += 2) {
            all.add((long) x.bent(i / 9, i % 9));
        }
        all.add((long) x.match(100, 200, 250));
        tellRow(x, all);
        all.add((long) x.press(0));
        tellRow(x, all);
        while (x.undo() >= 0) {
            tellCounts(x, all);
        }
        for (int i = 0; i < 2; i++) {
            all.add(x.again(i) ? 1L : 0);
            tellCounts(x, all);
            all.add((long) x.press(0));
            tellRow(x, all);
        }
        return all;
    }

    private static List<Long> toldWithRow(InkFolds x) {
        List<Long> all = new ArrayList<>();
        tellRow(x, all);
        all.addAll(told(x));
        return all;
    }

    private static final Map<String, List<Long>> KNOWN = new HashMap<>();

    /** What an object of this maker tells that was not called, but that THE TEXT may be emptied. */
    private static List<Long> knownOf(Maker maker, boolean emptied) {
        String name = "";
        for (int i = 0; i < ALL.length; i++) {
            name = maker == ALL[i] ? i + "" + emptied : name;
        }
        List<Long> known = KNOWN.get(name);
        if (known == null || name.isEmpty()) {
            InkFolds x = maker.make();
            if (emptied) {
                x.end(0);
            }
            known = toldWithRow(x);
            if (!name.isEmpty()) {
                KNOWN.put(name, known);
            }
        }
        return known;
    }

    /** The call answers so, and nothing at all changes. */
    private static void refused(String what, long want, Call call, Maker... makers) {
        for (Maker maker : makers.length == 0 ? ALL : makers) {
            InkFolds x = maker.make();
            due(what, call.of(x), want);
            if (!toldWithRow(x).equals(knownOf(maker, false))) {
                fault("something changed by " + what);
            }
        }
    }

    /** The call reads this text and answers so; THE TEXT is empty then, and nothing else changes. */
    private static void refusedText(String s, long want, Call call, Maker... makers) {
        for (Maker maker : makers.length == 0 ? ALL : makers) {
            InkFolds x = say(maker.make(), s);
            due("the text " + s, call.of(x), want);
            due("signs of THE TEXT behind " + s, x.count(11), 0);
            if (!toldWithRow(x).equals(knownOf(maker, true))) {
                fault("something changed by " + s);
            }
        }
    }

    private static void noPatches(String s, int p) {
        refusedText(s, -1 - p, x -> x.patches());
    }

    private static void noCurve(String s, int p) {
        refusedText(s, -1 - p, x -> x.curve(2));
    }

    private static void noLink(String s, int p) {
        refusedText(s, -1 - p, x -> x.link());
    }

    private static void noPicture(String s, int p) {
        refusedText(s, -1 - p, x -> x.picture());
    }

    private static void noDay(String s, int p) {
        refusedText(s, -1 - p, x -> x.day());
    }

    private static String times(int n, String s) {
        return s.repeat(n);
    }

    private static final int LEAST = Integer.MIN_VALUE;
    private static final int MOST = Integer.MAX_VALUE;
    private static final int[] LAST_CODES = {0, 8, 80, 800, 8000, 8888};
    private static final int[] NO_CODES = {-1, 9, 19, 90, 98, 900, 9000, 8889, 8898, 8988, 9888, 9999, 10000, -8888, LEAST, MOST};
    private static final int[] PLAIN = {0, 1, 2, 3, 6, 9, 18, 27, 54};

    private interface CodeCall {
        long of(InkFolds x, int code);
    }

    private static void noSuchCodes(String what, CodeCall call) {
        for (int code : NO_CODES) {
            int c = code;
            refused(what + " of " + c, -1, x -> call.of(x, c), FULL);
        }
        refused(what + " of 9", -1, x -> call.of(x, 9));
    }

    private interface ColourCall {
        long of(InkFolds x, int r, int q, int b);
    }

    /** Numbers of a COLOUR are 0 .. most; those outside are refused, each by itself. */
    private static void noSuchColours(String what, int most, ColourCall call) {
        int[] none = {-1, most + 1, LEAST, MOST};
        for (int v : none) {
            refused(what + " of r " + v, -1, x -> call.of(x, v, 0, most));
            refused(what + " of q " + v, -1, x -> call.of(x, most, v, 0));
            refused(what + " of b " + v, -1, x -> call.of(x, 0, most, v));
        }
        int[] last = {0, most};
        for (int r : last) {
            for (int q : last) {
                for (int b : last) {
                    yes(what + " of " + r + ", " + q + ", " + b, call.of(full(), r, q, b) >= 0);
                }
            }
        }
    }

    // ---- terms 1: AMOUNTS, PATCHES, LIGHT

    private static void termsOfPatches() {
        edge("terms 1, AMOUNT 0 .. 8, told as a CODE", () -> {
            InkFolds x = new InkFolds();
            for (int code : LAST_CODES) {
                due("through(" + code + ")", x.through(code), code);
            }
            for (int code : NO_CODES) {
                due("through(" + code + ")", x.through(code), -1);
            }
            int codes = 0;
            for (int code = -20; code < 10020; code++) {
                codes += fitsCode(code) == (x.limited(code, 32) >= 0) ? 0 : 1;
                if ((code + 20) % 250 == 0) {
                    x = new InkFolds();
                }
            }
            due("numbers taken wrongly as a CODE, or not as one", codes, 0);
        });
        edge("terms 1, TOTAL: the four together", () -> {
            InkFolds x = new InkFolds();
            due("TOTAL of 0", x.colour(0), 0);
            due("TOTAL of 8888", x.colour(8888), 32);
            due("TOTAL of 1234", x.colour(1234), 10);
        });
        edge("terms 1, LEVELS 0, 1, 2: AMOUNT 0, 4, 8", () -> {
            InkFolds x = new InkFolds();
            int[] codes = {0, 4, 8, 40, 80, 400, 800, 4000, 8000};
            for (int i = 0; i < codes.length; i++) {
                x.colour(codes[i]);
                for (int band = 0; band < 3; band++) {
                    due("COLOUR of " + codes[i], x.row(band), 4 * x.light(PLAIN[i], band));
                }
            }
        });
        edge("terms 1, PATCHES 0 .. 80: 27, 9, 3 times the LEVELS and that of k", () -> {
            InkFolds x = new InkFolds();
            x.measure(80, 1, 2, 3);
            x.colour(8888);
            row(x, 4, 8, 12);
            x.measure(27 + 18 + 3, 5, 6, 7);
            x.colour(4840);
            row(x, 20, 24, 28);
        });
        edge("terms 1, PLAIN: PATCHES of which one LEVEL at most is above 0", () -> {
            InkFolds x = new InkFolds();
            int measured = 0;
            for (int patch = 0; patch < 81; patch++) {
                measured += isOneOf(PLAIN, patch) ? 0 : 1;
                due("measure(" + patch + ")", x.measure(patch, 1, 2, 3), measured);
            }
            due("MEASURED in the end", x.count(0), 72);
        });
        edge("terms 1, their LIGHT at first", () -> {
            InkFolds x = new InkFolds();
            int[][] lights = {{100, 100, 100}, {50, 50, 50}, {10, 10, 10}, {90, 90, 50}, {80, 80, 10}, {90, 50, 90},
                {80, 10, 80}, {50, 90, 90}, {10, 80, 80}};
            for (int i = 0; i < PLAIN.length; i++) {
                for (int band = 0; band < 3; band++) {
                    due("light(" + PLAIN[i] + ", " + band + ")", x.light(PLAIN[i], band), lights[i][band]);
                }
            }
        });
        edge("terms 1, another PATCH is MEASURED or not (at first not)", () -> {
            InkFolds x = new InkFolds();
            due("MEASURED at first", x.count(0), 0);
            due("light(40, 0)", x.light(40, 0), 20);
            x.measure(40, 100, 0, 100);
            due("light(40, 0)", x.light(40, 0), 100);
            due("light(40, 1)", x.light(40, 1), 0);
            due("light of the next one", x.light(41, 0), 4);
        });
        termsOfReckonedLight();
    }

    private static boolean fitsCode(int code) {
        return code >= 0 && code <= 8888 && code % 10 < 9 && code / 10 % 10 < 9 && code / 100 % 10 < 9;
    }

    private static boolean isOneOf(int[] all, int v) {
        for (int one : all) {
            if (one == v) {
                return true;
            }
        }
        return false;
    }

    /** The paper, ink c, m, y at LEVEL 1 have this LIGHT in BAND 0. */
    private static InkFolds lit(int paper, int c, int m, int y) {
        InkFolds x = white();
        x.measure(0, paper, 100, 100);
        x.measure(27, c, 100, 100);
        x.measure(9, m, 100, 100);
        x.measure(3, y, 100, 100);
        return x;
    }

    private static void termsOfReckonedLight() {
        edge("terms 1, LIGHT of one that is not: cut each time", () -> {
            due("15, 13 of 13.5, 11 of 11.7", lit(10, 15, 9, 9).light(39, 0), 11);
            due("1 of 1.9", lit(100, 19, 10, 100).light(36, 0), 1);
            due("0 of 0.9", lit(100, 9, 10, 100).light(36, 0), 0);
        });
        edge("terms 1, LIGHT of one that is not: by 0: 0", () -> {
            due("paper 0", lit(0, 50, 50, 50).light(36, 0), 0);
            due("paper 0", lit(0, 100, 100, 100).light(39, 0), 0);
            due("a PLAIN one", lit(0, 50, 50, 50).light(27, 0), 50);
            due("paper 1", lit(1, 1, 2, 3).light(39, 0), 6);
            InkFolds x = lit(0, 50, 50, 50);
            due("the other BANDS", x.light(36, 1), 100);
            x.measure(36, 70, 70, 70);
            due("a MEASURED one", x.light(36, 0), 70);
        });
        edge("terms 1, LIGHT of one that is not: 100 at most each time", () -> {
            due("50 and 100 and 200, put to 100, and 50", lit(50, 100, 100, 25).light(39, 0), 50);
            due("50, 25, 50, 100", lit(50, 25, 100, 100).light(39, 0), 100);
            due("99", lit(100, 100, 99, 100).light(36, 0), 99);
            due("100 is not put", lit(50, 100, 50, 100).light(36, 0), 100);
            due("101 is", lit(99, 100, 100, 100).light(36, 0), 100);
            due("the last one of all", lit(1, 100, 100, 100).light(39, 0), 100);
        });
        edge("terms 1, for c, m, y, k in this order", () -> {
            due("c 200, put to 100, y by 4", lit(50, 100, 100, 12).light(39, 0), 24);
            due("c by 4, m, y", lit(50, 12, 100, 100).light(39, 0), 48);
            InkFolds x = lit(50, 100, 50, 100);
            x.measure(1, 25, 100, 100);
            due("k is the last", x.light(31, 0), 50);
        });
    }

    // ---- terms 1: COLOURS, what is OPEN

    private static void termsOfColours() {
        edge("terms 1, COLOUR: in each BAND a number 0 .. 400", () -> {
            InkFolds x = white();
            x.colour(0);
            row(x, 400, 400, 400);
            x.measure(80, 0, 0, 0);
            x.colour(8888);
            row(x, 0, 0, 0);
        });
        edge("terms 1, an AMOUNT is 4 times a LEVEL 0 or 1 (0 .. 3: 0, else 1) and a REST 0 .. 4", () -> {
            InkFolds x = new InkFolds();
            int[] numbers = {400, 350, 300, 250, 200, 160, 120, 80, 40};
            for (int k = 0; k <= 8; k++) {
                x.colour(k);
                row(x, numbers[k], numbers[k], numbers[k]);
            }
        });
        edge("terms 1, that of the greatest REST first, then that of the next one", () -> {
            InkFolds x = white();
            x.measure(36, 0, 0, 0);
            x.colour(1200);
            row(x, 300, 300, 300);
            x.measure(9, 50, 50, 50);
            x.colour(1200);
            row(x, 250, 250, 250);
            x.colour(2100);
            row(x, 300, 300, 300);
            x.measure(39, 50, 50, 50);
            x.measure(40, 0, 0, 0);
            x.colour(4321);
            row(x, 150, 150, 150);
        });
        edge("terms 1, of equal RESTS any first: it is all the same", () -> {
            InkFolds x = white();
            x.measure(27, 10, 20, 30);
            x.measure(9, 90, 80, 70);
            x.measure(36, 50, 60, 70);
            x.colour(1100);
            row(x, 350, 360, 370);
            x.colour(3300);
            row(x, 250, 280, 310);
            x.colour(4400);
            row(x, 200, 240, 280);
        });
        edge("terms 1, four times a - b, c - d, d: RESTS of 4 and of 0", () -> {
            InkFolds x = white();
            x.measure(54, 40, 40, 40);
            x.measure(57, 80, 80, 80);
            x.colour(8000);
            row(x, 160, 160, 160);
            x.colour(8040);
            row(x, 320, 320, 320);
            x.colour(8010);
            row(x, 200, 200, 200);
        });
        edge("terms 1, WEIGHTS 1 .. 9 (at first 1), DISTANCE", () -> {
            InkFolds x = new InkFolds();
            due("DISTANCE of one", x.paints(0, 1, 0, 0), 1);
            due("DISTANCE of all", x.paints(0, 400, 400, 400), 399 * 399 + 2 * 160000);
            x.sets(5, 2);
            x.sets(6, 3);
            due("each BAND has its WEIGHT", x.paints(0, 390, 380, 370), 100 + 2 * 400 + 3 * 900);
            x.paints(0, 400, 400, 400);
            due("WEIGHT at first", x.sets(4, 9), 1);
            x.sets(5, 9);
            x.sets(6, 9);
            due("DISTANCE of all, WEIGHTS 9", x.paints(0, 0, 0, 0), 27 * 160000);
        });
        edge("terms 1, four AMOUNTS are OPEN if TOTAL is not above LIMIT", () -> {
            InkFolds x = white();
            yes("at first all", x.way(8888, 8888, 0) == 0);
            int[] limits = {8, 9, 20, 31};
            int[] last = {8000, 8100, 8840, 8887};
            int[] first = {8100, 8110, 8841, 8888};
            for (int i = 0; i < limits.length; i++) {
                x.sets(0, limits[i]);
                due("LIMIT " + limits[i] + " and TOTAL", x.way(last[i], last[i], 0), 0);
                due("LIMIT " + limits[i] + " and a TOTAL above it", x.way(first[i], first[i], 0), -2);
            }
        });
        edge("terms 1, .. and AMOUNT of k not above TOP", () -> {
            InkFolds x = white();
            for (int top = 7; top >= 0; top--) {
                x.sets(3, top);
                due("TOP " + top, x.way(8880 + top, 8880 + top, 0), 0);
                due("above TOP " + top, x.way(top + 1, top + 1, 0), -2);
            }
        });
    }

    // ---- terms 1: MATCH, FOLD, LIMITED

    private static void termsOfMatch() {
        edge("terms 1, WANTED: three numbers 0 .. 400", () -> {
            InkFolds x = stairs(0);
            due("match(0, 0, 0)", x.match(0, 0, 0), 8000);
            due("match(400, 400, 400)", x.match(400, 400, 400), 0);
        });
        edge("terms 1, FITS: the OPEN ones of which DISTANCE is at most the least one there is and SLACK", () -> {
            InkFolds x = stairs(0);
            x.match(400, 400, 400);
            row(x, 0, 0, 8, 729);
            x.sets(2, 7499);
            x.match(400, 400, 400);
            row(x, 0, 0, 8, 729);
            x.sets(2, 7500);
            x.match(400, 400, 400);
            row(x, 0, 0, 8, 2 * 729);
            x.sets(2, 12499);
            x.match(400, 400, 300);
            row(x, 7500, 0, 8, 2 * 729);
            x.sets(2, 12500);
            x.match(400, 400, 300);
            row(x, 7500, 0, 8, 3 * 729);
        });
        edge("terms 1, SLACK (0 .. 99999, at first 0)", () -> {
            InkFolds x = white();
            x.measure(1, 100, 100, 50);
            x.measure(2, 100, 100, 0);
            due("SLACK at first", x.count(3), 0);
            x.match(400, 400, 400);
            row(x, 0, 0, 0, 729);
            x.sets(2, 99999);
            x.match(400, 400, 400);
            row(x, 22500, 0, 6, 7 * 729);
        });
        edge("terms 1, only OPEN ones count for the least DISTANCE and for FITS", () -> {
            InkFolds x = stairs(0);
            x.sets(0, 8);
            x.sets(3, 0);
            x.match(0, 0, 0);
            row(x, 0, 0, 0, 1);
            x = stairs(3);
            x.sets(3, 4);
            due("the darkest that may be", x.match(0, 0, 0), 4);
            row(x, 3 * 40000, 4, 4, 729);
        });
        edge("terms 1, LOW, HIGH: the least and the greatest AMOUNT of k of FITS", () -> {
            InkFolds x = stairs(3);
            x.match(250, 250, 250);
            row(x, 0, 3, 3, 729);
            x.sets(2, 7500);
            x.match(250, 250, 250);
            row(x, 7500, 2, 4, 3 * 729);
            x.sets(3, 3);
            x.match(250, 250, 250);
            row(x, 7500, 2, 3, 2 * 729);
        });
        edge("terms 1, wished is LOW and (HIGH - LOW) times GREY by 4 (cut)", () -> {
            InkFolds x = white();
            int[][] wished = {{0, 0, 0, 0, 0}, {0, 0, 0, 0, 1}, {0, 0, 1, 1, 2}, {0, 0, 1, 2, 3}, {0, 1, 2, 3, 4},
                {0, 1, 2, 3, 5}, {0, 1, 3, 4, 6}, {0, 1, 3, 5, 7}, {0, 2, 4, 6, 8}};
            for (int top = 8; top >= 0; top--) {
                x.sets(3, top);
                for (int grey = 0; grey <= 4; grey++) {
                    x.sets(1, grey);
                    due("TOP " + top + ", GREY " + grey, x.match(400, 400, 400), wished[top][grey]);
                }
            }
            x = stairs(3);
            x.sets(2, 7500);
            for (int grey = 0; grey <= 4; grey++) {
                x.sets(1, grey);
                due("from LOW on, GREY " + grey, x.match(250, 250, 250), new int[] {2, 2, 3, 3, 4}[grey]);
            }
        });
        edge("terms 1, equally near: the lesser one", () -> {
            InkFolds x = white();
            x.measure(1, 50, 50, 50);
            due("0 and 8 to 4", x.match(400, 400, 400), 0);
            x.sets(1, 3);
            due("8 is nearer to 6", x.match(400, 400, 400), 8);
            x.sets(1, 1);
            due("0 is nearer to 2", x.match(400, 400, 400), 0);
        });
        termsOfTies();
        termsOfFold();
    }

    private static void termsOfTies() {
        edge("terms 1, of these of the least DISTANCE, then of the least TOTAL, then of the least CODE", () -> {
            InkFolds x = stairs(0);
            x.sets(2, 99999);
            due("the least DISTANCE, not the least TOTAL", x.match(300, 300, 300), 2000);
            x.sets(2, 0);
            due("equally far: the least TOTAL", x.match(375, 375, 375), 0);
            due("equally far: the least TOTAL", x.match(25, 25, 25), 7000);
            x.measure(9, 50, 50, 50);
            x.measure(18, 0, 0, 0);
            due("of equal TOTAL the least CODE", x.match(300, 300, 300), 200);
            x = stairs(0);
            x.measure(9, 75, 75, 75);
            due("one of c, not two of m: the least TOTAL ahead of the least CODE", x.match(350, 350, 350), 1000);
        });
        edge("terms 1, equally near: the lesser one, though the other one is of less DISTANCE", () -> {
            InkFolds x = white();
            x.measure(1, 50, 50, 50);
            x.measure(2, 99, 99, 99);
            due("SLACK 0: the one that there is", x.match(396, 396, 396), 8);
            row(x, 0, 8, 8, 729);
            x.sets(2, 3 * 16);
            due("0 and 8 to 4", x.match(396, 396, 396), 0);
            row(x, 3 * 16, 0, 8, 2 * 729);
            x.sets(1, 3);
            due("8 is nearer to 6", x.match(396, 396, 396), 8);
            row(x, 0, 0, 8, 2 * 729);
        });
        edge("terms 1, the least DISTANCE by 1 comes ahead of the least TOTAL by 15", () -> {
            InkFolds x = white();
            x.measure(78, 99, 100, 100);
            x.sets(1, 0);
            x.sets(2, 1);
            due("fifteen, not none", x.match(399, 400, 400), 5550);
            due("none", x.match(400, 400, 400), 0);
        });
        edge("terms 1, AMOUNT of k comes ahead of DISTANCE", () -> {
            InkFolds x = stairs(3);
            x.sets(1, 4);
            x.sets(2, 7500);
            due("four of k, one too dark", x.match(250, 250, 250), 4);
            row(x, 7500, 2, 4, 3 * 729);
            x.sets(2, 7499);
            due("three of k", x.match(250, 250, 250), 3);
            row(x, 0, 3, 3, 729);
        });
    }

    private static void termsOfFold() {
        edge("terms 1, FOLD t (0 .. 8): with M their sum by 3 (cut), (it - M) times (8 - t) by 8 (cut to 0)", () -> {
            InkFolds x = white();
            due("t 8: M in all", x.fold(400, 0, 1), 8);
            row(x, 133, 133, 133, 3 * 267 * 267);
            due("M cut", x.fold(0, 0, 2), 0);
            row(x, 0, 0, 2, 160000 + 160000 + 398 * 398);
            InkFolds y = stairs(0);
            y.sets(2, 11);
            due("cut to 0 from both sides", y.fold(340, 350, 357), 6);
            row(y, 347, 349, 351, 11);
            y.sets(2, 10);
            due("cut to 0 from both sides", y.fold(340, 350, 357), 7);
            row(y, 348, 349, 350, 5);
        });
        edge("terms 1, the first t of which the least DISTANCE is SLACK or less", () -> {
            InkFolds x = white();
            x.sets(2, 80000);
            due("as much as SLACK", x.fold(400, 200, 200), 0);
            x.sets(2, 79999);
            due("one more than SLACK", x.fold(400, 200, 200), 1);
            x.sets(2, 0);
            due("0 and SLACK 0", x.fold(400, 400, 400), 0);
            row(x, 400, 400, 400, 0);
        });
        edge("terms 1, if there is none, the first of which it is least", () -> {
            InkFolds x = white();
            due("all alike: the first", x.fold(300, 300, 300), 0);
            row(x, 300, 300, 300, 30000);
            due("the last", x.fold(400, 0, 0), 8);
            InkFolds y = new InkFolds();
            for (int patch : PLAIN) {
                y.measure(patch, 92, 100, 100);
            }
            due("t 9, nearer to 368, 400, 400, is none", y.fold(400, 364, 364), 8);
            row(y, 376, 376, 376, 64 + 2 * 576);
            due("1 .. 8 are alike", x.fold(301, 300, 299), 1);
            row(x, 300, 300, 300, 30000);
        });
        edge("terms 1, LIMITED to n: T the greatest of 0 .. 8 by which TOTAL is not above n (k stays)", () -> {
            InkFolds x = new InkFolds();
            due("TOTAL n", x.limited(2222, 8), 2222);
            due("TOTAL one more than n", x.limited(2223, 8), 1113);
            due("T 8", x.limited(8888, 32), 8888);
            due("T 7", x.limited(8888, 31), 7778);
            due("T 7", x.limited(8888, 29), 7778);
            due("T 6", x.limited(8888, 28), 6668);
            due("T 0", x.limited(8888, 10), 8);
            due("T 1", x.limited(8888, 11), 1118);
            due("T 0", x.limited(1118, 8), 8);
            due("lesser ones stay", x.limited(8210, 8), 5210);
            due("k stays", x.limited(8, 8), 8);
        });
    }

    // ---- terms 1: STEPS

    private static void goes(String link, int from, int to) {
        InkFolds x = new InkFolds();
        yes("telling " + link, say(x, link).link() >= 0);
        due(link + " of " + from, x.through(from), to);
    }

    private static void termsOfSteps() {
        edge("terms 1, l: LIMITED to LIMIT as it was when THE LINK was told", () -> {
            goes("l", 8888, 8888);
            InkFolds x = new InkFolds();
            x.sets(0, 8);
            say(x, "l").link();
            due("TOTAL 8", x.through(4310), 4310);
            due("TOTAL 9", x.through(4311), 3311);
            x.sets(0, 31);
            due("LIMIT is another one now", x.through(8888), 8);
            say(x, "l").link();
            due("told again", x.through(8888), 7778);
        });
        edge("terms 1, v: CURVES as they are when it is done", () -> {
            InkFolds x = linked("v");
            due("as at first", x.through(8080), 8080);
            say(x, "111111118").curve(0);
            say(x, "000000008").curve(3);
            due("0 and 8, 7", x.through(7), 1000);
            due("8 and 8", x.through(8008), 8008);
            due("7 and 8", x.through(7008), 1008);
            x.undo();
            due("undone", x.through(7), 1007);
        });
        edge("terms 1, g: the least of c, m, y times it by 4 (cut), but at most 8 less k", () -> {
            goes("g0", 8880, 8880);
            goes("g1", 3330, 3330);
            goes("g1", 4440, 3331);
            goes("g3", 1880, 1880);
            goes("g3", 2880, 1771);
            goes("g4", 1880, 771);
            goes("g4", 8180, 7071);
            goes("g4", 8810, 7701);
            goes("g4", 2340, 122);
            goes("g4", 4230, 2012);
            goes("g4", 3420, 1202);
            goes("g4", 880, 880);
            goes("g4", 8088, 8088);
            goes("g4", 8880, 8);
            goes("g4", 8881, 1118);
            goes("g4", 8887, 7778);
            goes("g4", 8888, 8888);
            goes("g4", 4444, 8);
            goes("g4", 5554, 1118);
        });
        edge("terms 1, u: the least of d, of k, and of 8 less the greatest of c, m, y", () -> {
            goes("u0", 8, 8);
            goes("u8", 8, 8880);
            goes("u8", 0, 0);
            goes("u1", 2, 1111);
            goes("u3", 2, 2220);
            goes("u8", 6008, 8226);
            goes("u8", 78, 1187);
            goes("u8", 808, 808);
            goes("u2", 608, 2826);
            goes("u8", 605, 2823);
            goes("u8", 65, 2283);
            goes("u8", 6125, 8343);
            goes("u8", 1265, 3483);
        });
        edge("terms 1, a: d more (8 at most)", () -> {
            goes("ac8", 0, 8000);
            goes("am8", 888, 888);
            goes("ay1", 70, 80);
            goes("ay2", 70, 80);
            goes("ak0", 3, 3);
            goes("ak1", 8, 8);
        });
        edge("terms 1, s: d less (0 at least)", () -> {
            goes("sc8", 8888, 888);
            goes("sm8", 8788, 8088);
            goes("sy2", 8820, 8800);
            goes("sy3", 8820, 8800);
            goes("sk0", 8, 8);
            goes("sk1", 80, 80);
        });
        edge("terms 1, w: at most d", () -> {
            goes("wc0", 8888, 888);
            goes("wm8", 800, 800);
            goes("wy3", 30, 30);
            goes("wy3", 40, 30);
            goes("wk3", 2, 2);
        });
        edge("terms 1, h: half (cut)", () -> {
            goes("hc", 888, 888);
            goes("hm", 8188, 8088);
            goes("hy", 8828, 8818);
            goes("hk", 7, 3);
            goes("hk", 8, 4);
        });
        edge("terms 1, x: the two are changed about", () -> {
            goes("xck", 1234, 4231);
            goes("xmy", 1234, 1324);
            goes("xyy", 1234, 1234);
        });
        termsOfBrackets();
    }

    private static void termsOfBrackets() {
        edge("terms 1, n, a digit 0 .. 9, (STEPS): so many times", () -> {
            goes("n0(ac1)", 0, 0);
            goes("n1(ac1)", 0, 1000);
            goes("n8(ac1)", 0, 8000);
            goes("n9(sc1n1(xcm))", 8700, 3300);
            goes("n9(hcxcmxmyxyk)", 8888, 2221);
            goes("n3()", 1234, 1234);
        });
        edge("terms 1, o: as often as AMOUNT of it tells ahead of them", () -> {
            goes("oc(am1)", 0, 0);
            goes("oc(am1)", 1000, 1100);
            goes("oc(am1)", 8000, 8800);
            goes("oc(ac1)", 2000, 4000);
            goes("oc(sc8am1)", 3000, 300);
            goes("ok(xkc)", 3, 3000);
            goes("oy()", 80, 80);
        });
        edge("terms 1, i: if AMOUNT of it is above d", () -> {
            goes("ic0(ak1)", 0, 0);
            goes("ic0(ak1)", 1000, 1001);
            goes("im7(ak1)", 700, 700);
            goes("im7(ak1)", 800, 801);
            goes("iy8(ak1)", 80, 80);
            goes("ik3(ak1)", 3, 3);
            goes("ik3(ak1)", 4, 5);
        });
        edge("terms 1, j: if that of the first is above that of the second", () -> {
            goes("jcm(ak1)", 3300, 3300);
            goes("jcm(ak1)", 4300, 4301);
            goes("jcm(ak1)", 3400, 3400);
            goes("jyy(ak1)", 80, 80);
            goes("jky(ac1)", 1, 1001);
            goes("jky(ac1)", 0, 0);
        });
        edge("terms 1, p: all that THE LINK did ahead of this telling (l in it as it was told then)", () -> {
            due("of none", linked("p").through(1234), 1234);
            due("of none, and more", linked("pac1").through(1234), 2234);
            due("twice", linked("ac1am1", "pp").through(0), 2200);
            due("of the one ahead alone", linked("ac1", "am1", "p").through(0), 100);
            due("never", linked("ac1", "n0(p)").through(0), 0);
            InkFolds deep = linked("n1(oc(jcm(ac1)))am1", "n1(n1(n1(p)))", "n1(n1(n1(p)))", "n1(n1(n1(p)))", "n1(n1(n1(p)))",
                "n1(n1(n1(p)))");
            due("six tellings, 3 deep each: AGE", deep.count(6), 6);
            due("LONG", deep.count(5), 1 + 1 + 8 * 2 + 1 + 5 * 3);
            due("six tellings, 3 deep each", deep.through(1000), 2100);
            due("six tellings, 3 deep each", deep.sources(2100), 1);
            InkFolds x = new InkFolds();
            x.sets(0, 8);
            say(x, "l").link();
            x.sets(0, 12);
            say(x, "ak1p").link();
            due("LIMIT 8", x.through(5550), 2221);
            x.sets(0, 32);
            due("LIMIT is another one now", x.through(8888), 8);
        });
        edge("terms 1, ( ) stand in one another 3 deep at most, with STEPS or none", () -> {
            due("3 deep", linked("n1(n2(n3(ac1)))").through(0), 6000);
            due("none in them", linked("n1(oc(ic1()))").through(1234), 1234);
            goes("n2(n1(ac1)am1)", 0, 2200);
            goes("n2(n2(n2(ac1)am1)ay1)", 0, 8420);
            goes("n2(n0(ac1)n0(ac1)am1)ay1", 0, 210);
            longOf(5, "n2(n1()l)");
            due("one behind another", linked("n1(n1(n1()n1())n1(n1()))n1()").count(5), 7);
            noLink("n1(n1(n1(n1())))", 11);
            noLink("n1(oc(ic1(jcm())))", 13);
            noLink("n1(n1(n1()n1()n1(n1())))", 19);
        });
        termsOfLong();
    }

    private static void longOf(int want, String... links) {
        InkFolds x = new InkFolds();
        for (int i = 0; i < links.length; i++) {
            int got = say(x, links[i]).link();
            if (i == links.length - 1) {
                due("LONG of " + links[i], got, want);
                due("count(5)", x.count(5), want);
            }
        }
    }

    private static void termsOfLong() {
        edge("terms 1, LONG: STEPS l, v, g, u, a, s, w, h, x: 1", () -> {
            String[] steps = {"l", "v", "g4", "u8", "ac8", "sm0", "wy8", "hk", "xcc"};
            for (String step : steps) {
                longOf(1, step);
            }
            longOf(9, String.join("", steps));
        });
        edge("terms 1, LONG: n: 1 and so many times what is in ( ), o: 1 and 8 times that, i, j: 1 and that", () -> {
            longOf(1, "n0(lvl)");
            longOf(4, "n1(lvl)");
            longOf(28, "n9(lvl)");
            longOf(1, "n9()");
            longOf(25, "oc(lvl)");
            longOf(1, "oc()");
            longOf(4, "ic8(lvl)");
            longOf(1, "ic8()");
            longOf(4, "jcc(lvl)");
            longOf(1, "jcc()");
            longOf(1 + 9 * (1 + 8 * (1 + 1)), "n9(oc(jcm(l)))");
        });
        edge("terms 1, LONG of p: that of that one", () -> {
            longOf(0, "p");
            longOf(0, "ppp");
            longOf(1, "n9(p)");
            longOf(7, "lvl", "plp");
            longOf(28, "lvl", "n9(p)");
            longOf(2, "l", "", "ll");
            longOf(0, "l", "", "p");
        });
        edge("terms 1, AGE: 0 of none, with p that of the former one and 1, else 1", () -> {
            due("none", linked("").count(6), 0);
            due("none behind one", linked("p", "p", "").count(6), 0);
            due("without p", linked("l").count(6), 1);
            due("without p behind others", linked("l", "p", "p", "l").count(6), 1);
            due("with p of none", linked("p").count(6), 1);
            due("with p of one", linked("l", "p").count(6), 2);
            due("with two p", linked("l", "plp").count(6), 2);
            due("with p in ( )", linked("l", "n1(n0(p))").count(6), 2);
        });
    }

    // ---- terms 2

    /** Questions, and whether they tell the ROW. */
    private static void questionsChangeNothing() {
        Call[] rowless = {x -> x.light(40, 1), x -> x.bent(0, 5), x -> x.limited(8765, 9), x -> x.through(5678), x -> x.count(3),
            x -> x.cell(0, 1), x -> x.cell(1, 3)};
        Call[] others = {x -> x.colour(4567), x -> x.match(9, 9, 9), x -> x.fold(400, 0, 0), x -> x.prints(0, 0, 400),
            x -> x.ramp(0, 8888), x -> x.way(0, 1000, 99999), x -> x.rises(0), x -> x.reach(1), x -> x.spread(), x -> x.odds(1, 2, 3, 4),
            x -> x.sources(0), x -> x.rounds(7), x -> x.press(0), x -> x.press(1), x -> x.slips(0, 1, 1), x -> x.greys(0, 30),
            x -> x.replaces(0, 0, 99), x -> x.doubt(), x -> x.asks(), x -> x.other(1), x -> x.carry(1, 77), x -> x.drifts(5, 40)};
        for (Maker maker : new Maker[] {HALF, FULL}) {
            List<Long> known = told(maker.make());
            for (int i = 0; i < others.length; i++) {
                InkFolds x = maker.make();
                yes("question " + i, others[i].of(x) >= 0);
                if (!told(x).equals(known)) {
                    fault("question " + i + " changed something");
                }
            }
            for (int i = 0; i < rowless.length; i++) {
                InkFolds x = maker.make();
                yes("question " + i + " without ROW", rowless[i].of(x) >= 0);
                if (!toldWithRow(x).equals(knownOf(maker, false))) {
                    fault("question " + i + " without ROW changed something");
                }
            }
        }
    }

    private static void rowIsToldAnew() {
        Call[] tell = {x -> x.colour(4567), x -> x.match(9, 9, 9), x -> x.fold(400, 0, 0), x -> x.prints(0, 0, 400),
            x -> x.ramp(0, 8888), x -> x.way(0, 1000, 99999), x -> x.rises(0), x -> x.reach(1), x -> x.spread(), x -> x.odds(1, 2, 3, 4),
            x -> x.sources(0), x -> x.rounds(7), x -> x.press(0), x -> x.press(1), x -> x.slips(0, 1, 1), x -> x.greys(0, 30),
            x -> x.replaces(0, 0, 99), x -> x.doubt(), x -> x.asks(), x -> x.other(1), x -> x.carry(1, 77), x -> x.drifts(5, 40),
            x -> say(x, "").day()};
        for (Maker maker : new Maker[] {HALF, FULL}) {
            InkFolds x = maker.make();
            for (int i = 0; i < tell.length; i++) {
                List<Long> alone = new ArrayList<>();
                InkFolds y = maker.make();
                alone.add(tell[i].of(y));
                tellRow(y, alone);
                List<Long> behindAll = new ArrayList<>();
                behindAll.add(tell[i].of(x));
                tellRow(x, behindAll);
                List<Long> again = new ArrayList<>();
                again.add(tell[i].of(x));
                tellRow(x, again);
                yes("call " + i + " behind others", alone.equals(behindAll));
                yes("call " + i + " again", alone.equals(again));
            }
        }
    }

    private static void termsOfTheRow() {
        edge("terms 2, ROW: numbers told last by a call that says so", Edges::rowIsToldAnew);
        edge("terms 2, questions change nothing", Edges::questionsChangeNothing);
        edge("terms 2, fractions are told in lowest terms (0 by 1)", () -> {
            InkFolds x = stairs(0);
            x.odds(400, 400, 400, -1);
            row(x, 0, 1);
            x.odds(400, 400, 400, 480000);
            row(x, 1, 1);
            x.odds(0, 0, 0, 22500 * 3);
            row(x, 4, 9);
            x.odds(0, 0, 0, 10000 * 3);
            row(x, 1, 3);
        });
        edge("terms 2, refused calls change nothing but THE TEXT, which a call that reads it empties", () -> {
            refusedText("q", -1, x -> x.patches());
            refusedText("q", -1, x -> x.curve(0));
            refusedText("q", -1, x -> x.link());
            refusedText("q", -1, x -> x.picture());
            refusedText("q", -1, x -> x.day());
            refused("another call", -1, x -> x.sets(0, 7));
        });
        edge("terms 2, a call that reads THE TEXT empties it, refused or not", () -> {
            String[] read = {"1111102030", "011111118", "g1", "ab/cd", "t3g4", "", "1", "x"};
            Call[] calls = {x -> x.patches(), x -> x.curve(0), x -> x.link(), x -> x.picture(), x -> x.day(), x -> x.curve(9)};
            for (int i = 0; i < calls.length; i++) {
                for (String s : read) {
                    InkFolds x = say(new InkFolds(), s);
                    yes("call " + i, calls[i].of(x) > -100);
                    due("signs behind call " + i + " of " + s, x.count(11), 0);
                }
            }
            InkFolds x = say(new InkFolds(), "n9(n9(n9(l)))");
            due("too long", x.link(), -200);
            due("signs", x.count(11), 0);
            x = say(aged(), "p");
            due("too old", x.link(), -201);
            due("signs", x.count(11), 0);
        });
        edge("terms 2, NONE comes ahead of other answers below 0", () -> {
            InkFolds x = new InkFolds();
            due("no ink, no PICTURE", x.slips(4, 0, 0), -1);
            due("no how, no PICTURE", x.press(2), -1);
            due("no CODE, nothing kept", x.carry(0, 9), -1);
            due("no number, nothing kept", x.other(2), -1);
            due("no CODE, none within", x.replaces(0, 9, -1), -1);
            due("no CODE, one that is not OPEN", x.way(9, 0, -1), -1);
            due("more than 27", x.sheet(0, 28, 0, 0), -1);
            due("no kind, n below 0", x.sheet(4, -1, 0, 0), -1);
        });
        edge("terms 2, the ROW stays with calls that do not tell of it", () -> {
            Call[] silent = {x -> x.sign(0), x -> x.end(0) ? 1 : 0, x -> say(x, "").patches(), x -> say(x, "").curve(0),
                x -> say(x, "l").link(), x -> say(x, "a").picture(), x -> x.light(0, 0), x -> x.bent(0, 0), x -> x.sheet(0, 27, 0, 1),
                x -> x.measure(40, 1, 2, 3), x -> x.measure(40, 1, 2, 3) + x.forgets(40), x -> x.sets(0, 11), x -> x.paints(0, 1, 2, 3),
                x -> x.undo(), x -> x.limited(1111, 8), x -> x.through(1), x -> x.cell(0, 0), x -> x.keep(0) ? 1 : 0,
                x -> x.again(1) ? 1 : 0, x -> x.count(10), x -> x.row(0)};
            for (int i = 0; i < silent.length; i++) {
                InkFolds x = full();
                x.colour(8080);
                long[] was = {x.row(0), x.row(1), x.row(2)};
                yes("call " + i, silent[i].of(x) >= 0);
                row(x, was);
            }
        });
    }

    // ---- promises 2 to 7: texts

    private static final String PATCH = "2222010203";

    private static void sign() {
        edge("2, sign: four signs come behind THE TEXT, of v the highest byte first: how many it has", () -> {
            InkFolds x = new InkFolds();
            due("sign", x.sign(0x30313233), 4);
            due("the signs rise", x.curve(4), -5);
            x.sign(0x33323130);
            due("the signs fall", x.curve(4), -2);
            due("the least int", x.sign(LEAST), 4);
            due("-1", x.sign(-1), 8);
            x.end(0);
            due("the highest byte is a sign", x.sign(0xff000000 | '1'), 4);
            due("the sign 255", x.curve(4), -1);
            x.sign('1' << 24);
            due("the sign 0", x.curve(4), -2);
        });
        edge("2, refused: there would be more than 80", () -> {
            for (int n = 0; n <= 80; n++) {
                InkFolds x = say(new InkFolds(), times(8, PATCH));
                x.end(n);
                if (n <= 76) {
                    due("behind " + n, x.sign(0), n + 4);
                } else {
                    int signs = n;
                    refused("behind " + n, -1, y -> y.sign(0x30303030), () -> ended(signs));
                }
            }
            InkFolds x = say(new InkFolds(), times(8, PATCH));
            due("the 81st", x.sign(0x78787878), -1);
            due("the 80 are as they were", x.patches(), 8);
            x = say(new InkFolds(), times(7, PATCH) + "2222010");
            due("behind 77", x.sign(0x32323232), -1);
            due("the 77 end too early", x.patches(), -78);
        });
    }

    private static InkFolds ended(int n) {
        InkFolds x = say(half(), times(80, "0"));
        x.end(n);
        return x;
    }

    private static void end() {
        edge("3, end: THE TEXT has its first n signs alone: true", () -> {
            InkFolds x = say(new InkFolds(), "012321");
            yes("as many as it has", x.end(6));
            due("signs", x.count(11), 6);
            yes("first ones", x.end(4));
            due("signs", x.count(11), 4);
            due("they rise", x.curve(4), -5);
            yes("none of none", x.end(0));
            x = say(new InkFolds(), times(80, "5"));
            yes("80", x.end(80));
            yes("1", x.end(1));
            due("sign() goes on behind them", x.sign(0x36373838), 5);
            due("5, 6, 7, 8, 8", x.curve(4), -6);
        });
        edge("3, end: false if it has not so many, or n is below 0", () -> {
            refused("one below 0", 0, x -> x.end(-1) ? 1 : 0);
            refused("the least", 0, x -> x.end(LEAST) ? 1 : 0);
            refused("the most", 0, x -> x.end(MOST) ? 1 : 0);
            refused("one of none", 0, x -> x.end(1) ? 1 : 0, FRESH);
            refused("two of one", 0, x -> x.end(2) ? 1 : 0, HALF);
            refused("six of five", 0, x -> x.end(6) ? 1 : 0, FULL);
            refused("81 of 80", 0, x -> x.end(81) ? 1 : 0, () -> ended(80));
            InkFolds x = say(new InkFolds(), "0123");
            x.end(2);
            no("what is cut off does not come again", x.end(4));
        });
    }

    private static void patches() {
        edge("4, patches: THE TEXT tells PATCHES (none, too): how many were told", () -> {
            InkFolds x = full();
            due("none", say(x, "").patches(), 0);
            due("MEASURED", x.count(0), 2);
            for (int n = 1; n <= 8; n++) {
                x = new InkFolds();
                due(n + " PATCHES", say(x, times(n, PATCH)).patches(), n);
                due("signs are left", x.count(11), 0);
                due("MEASURED", x.count(0), 1);
            }
        });
        edge("4, patches: LEVELS are digits 0 .. 2, LIGHT has two digits each", () -> {
            InkFolds x = new InkFolds();
            due("the last digits", say(x, "2222999999" + "0000000000" + "1212900910").patches(), 3);
            due("99", x.light(80, 2), 99);
            due("00", x.light(0, 1), 0);
            due("90", x.light(50, 0), 90);
            due("09", x.light(50, 1), 9);
            due("10", x.light(50, 2), 10);
            String good = "2222999999";
            for (int p = 0; p < 10; p++) {
                String head = good.substring(0, p);
                String tail = good.substring(p + 1);
                noPatches(head + (p < 4 ? "3" : ":") + tail, p);
                noPatches(head + "/" + tail, p);
                noPatches(PATCH + head + (char) 255 + tail, 10 + p);
            }
            noPatches(times(7, PATCH) + "222299999x", 79);
            noPatches("" + (char) 0, 0);
        });
        edge("4, patches: -1 - p: its end, if it ends too early", () -> {
            for (int n = 1; n < 80; n++) {
                if (n % 10 != 0) {
                    noPatches(times(8, PATCH).substring(0, n), n);
                }
            }
        });
        edge("4, patches: nothing is done then", () -> {
            noPatches("1111102030" + "0000507090" + "3", 20);
            noPatches("1111102030" + "0000507090" + "2", 21);
        });
        edge("4, patches: MEASURED if not PLAIN", () -> {
            InkFolds x = new InkFolds();
            for (int patch = 0; patch < 81; patch++) {
                String levels = "" + patch / 27 + patch / 9 % 3 + patch / 3 % 3 + patch % 3;
                due("told " + levels, say(x, levels + "112233").patches(), 1);
                due("its LIGHT", x.light(patch, 2), 33);
            }
            due("MEASURED", x.count(0), 72);
        });
    }

    private static void curve() {
        edge("5, curve: nine digits 0 .. 8, none less than the one ahead: how far it is from straight", () -> {
            InkFolds x = new InkFolds();
            due("straight", say(x, "012345678").curve(0), 0);
            due("all 0", say(x, "000000000").curve(3), 36);
            due("all 8", say(x, "888888888").curve(3), 36);
            due("both ways", say(x, "222222888").curve(1), 2 + 1 + 0 + 1 + 2 + 3 + 2 + 1);
            due("its AMOUNT 5", x.bent(1, 5), 2);
            due("its AMOUNT 6", x.bent(1, 6), 8);
            due("others", x.bent(2, 6), 6);
        });
        edge("5, curve: the sign at p can't stand there", () -> {
            for (int p = 0; p < 9; p++) {
                String head = "012345678".substring(0, p);
                String tail = "012345678".substring(p + 1);
                noCurve(head + "9" + tail, p);
                noCurve(head + (p == 0 ? "/" : "" + (char) ('0' + p - 2)) + tail, p);
                noCurve(head + "x", p);
            }
            noCurve("001234567".substring(0, 8) + "5", 8);
            noCurve("888888887", 8);
            noCurve("10", 1);
        });
        edge("5, curve: a tenth sign, and more", () -> {
            noCurve("0123456788", 9);
            noCurve("012345678x", 9);
            noCurve(times(80, "8"), 9);
        });
        edge("5, curve: its end, if it ends too early", () -> {
            for (int n = 1; n < 9; n++) {
                noCurve("012345678".substring(0, n), n);
            }
        });
        edge("5, curve: an empty one: as at first", () -> {
            InkFolds x = new InkFolds();
            say(x, "888888888").curve(0);
            say(x, "888888888").curve(1);
            due("empty", x.curve(0), 0);
            for (int amount = 0; amount < 9; amount++) {
                due("as at first", x.bent(0, amount), amount);
                due("the other one", x.bent(1, amount), 8);
            }
        });
        edge("5, curve: NONE: no such ink (asked behind THE TEXT; so is -1 - 0)", () -> {
            for (int ink = 0; ink < 4; ink++) {
                due("ink " + ink, say(new InkFolds(), "000000008").curve(ink), 28);
            }
            int[] none = {-1, 4, LEAST, MOST};
            for (int ink : none) {
                refusedText("012345678", -1, x -> x.curve(ink));
                refusedText("", -1, x -> x.curve(ink));
                refusedText("x", -1, x -> x.curve(ink));
                refusedText("01x", -3, x -> x.curve(ink));
                refusedText("0123", -5, x -> x.curve(ink));
            }
            refusedText("x", -1, x -> x.curve(0));
        });
    }

    private static void link() {
        edge("6, link: an empty one: none: its LONG", () -> {
            InkFolds x = full();
            due("empty", say(x, "").link(), 0);
            due("nothing is changed", x.through(8765), 8765);
            due("AGE", x.count(6), 0);
            due("LONG", x.count(5), 0);
        });
        edge("6, link: at most 40 signs: 40, if it has more and the first 40 could go on or end", () -> {
            due("40", linked(times(40, "l")).count(5), 40);
            due("40", linked(times(18, "g4") + "n1()").count(5), 19);
            noLink(times(41, "l"), 40);
            noLink(times(80, "l"), 40);
            noLink(times(40, "l") + "?", 40);
            noLink(times(39, "l") + "g4", 40);
            noLink(times(39, "l") + "g?", 40);
            noLink(times(39, "l") + "n1(l)", 40);
            noLink("n1(" + times(37, "l") + ")", 40);
            noLink("n1(" + times(37, "l") + "l", 40);
            noLink("n9(n9(n9(" + times(40, "l"), 40);
            noLink(times(39, "l") + "?l", 39);
            noLink(times(38, "l") + "g5l", 39);
            noLink(times(39, "l") + ")l", 39);
            noLink("n1(n1(n1(" + times(28, "l") + "n1(l", 39);
            noLink("?" + times(50, "l"), 0);
        });
        edge("6, link: the sign at p can't stand there: no STEP", () -> {
            String steps = "lvguaswhxnoijp";
            for (char c = 0; c < 256; c++) {
                if (steps.indexOf(c) < 0) {
                    due("the sign " + (int) c, say(new InkFolds(), "" + c).link(), -1);
                }
            }
            noLink("l?", 1);
            noLink("L", 0);
            noLink("(l)", 0);
            noLink("l l", 1);
            noLink("l)", 1);
            noLink(")", 0);
            noLink("n1(l))", 5);
            noLink("" + (char) 0, 0);
            noLink("c1", 0);
        });
        edge("6, link: an ink is a letter c, m, y, k", () -> {
            String[] heads = {"a", "s", "w", "h", "x", "xc", "o", "i", "j", "jk"};
            for (String head : heads) {
                for (String bad : new String[] {"b", "d", "l", "n", "x", "z", "C", "0", "(", "" + (char) 0, "" + (char) 255}) {
                    due(head + bad, say(new InkFolds(), head + bad).link(), -1 - head.length());
                }
                noLink(head + "l", head.length());
            }
            for (String ink : new String[] {"c", "m", "y", "k"}) {
                due("h" + ink, say(new InkFolds(), "h" + ink).link(), 1);
            }
        });
        edge("6, link: d a digit 0 .. 8, of g 0 .. 4, of n 0 .. 9", () -> {
            String[] heads = {"g", "u", "ac", "sm", "wy", "n", "ik"};
            String[] tails = {"", "", "", "", "", "()", "()"};
            int[] last = {4, 8, 8, 8, 8, 9, 8};
            for (int i = 0; i < heads.length; i++) {
                due(heads[i] + last[i], say(new InkFolds(), heads[i] + last[i] + tails[i]).link(), 1);
                due(heads[i] + 0, say(new InkFolds(), heads[i] + 0 + tails[i]).link(), 1);
                noLink(heads[i] + (char) ('0' + last[i] + 1) + tails[i], heads[i].length());
                noLink(heads[i] + "/" + tails[i], heads[i].length());
                noLink(heads[i] + "c", heads[i].length());
            }
        });
        linkEnds();
        linkIsRefused();
    }

    private static void linkEnds() {
        edge("6, link: its end, if it ends too early", () -> {
            String[] whole = {"g4", "u8", "ac8", "sc8", "wc8", "hc", "xcm", "n9(l)", "oc(l)", "ic8(l)", "jcm(l)", "n1(n1(n1(l)))"};
            for (String s : whole) {
                for (int n = 1; n < s.length(); n++) {
                    noLink(s.substring(0, n), n);
                    due("l and " + s.substring(0, n), say(new InkFolds(), "l" + s.substring(0, n)).link(), -2 - n);
                }
                yes("whole: " + s, say(new InkFolds(), s).link() > 0);
            }
            noLink(times(39, "l") + "g", 40);
            noLink("n1(" + times(37, "l"), 40);
        });
        edge("6, link: ( has to stand there", () -> {
            noLink("n1l", 2);
            noLink("n1)", 2);
            noLink("ocl", 2);
            noLink("oc1", 2);
            noLink("ic1l", 3);
            noLink("jcml", 3);
            noLink("jcm)", 3);
        });
    }

    private static void linkIsRefused() {
        edge("6, link: -200: LONG would be above 500; THE LINK stays then", () -> {
            longOf(500, "n9(n9(llllll))llll");
            refusedText("n9(n9(llllll))lllll", -200, x -> x.link());
            refusedText("n9(n9(n9(l)))", -200, x -> x.link());
            refusedText("n9(n9(n9(lllllllllllllllllllllllllll)))", -200, x -> x.link());
            InkFolds x = linked("n9(n9(lll))lll");
            due("LONG of it", x.count(5), 256);
            due("twice 250 and more", say(x, "pp").link(), -200);
            due("once", say(x, "p").link(), 256);
        });
        edge("6, link: LONG 500 and 501 by p", () -> {
            InkFolds x = linked("n9(n9(ll))n9(llllll)" + times(20, "l"));
            due("LONG", x.count(5), 247);
            due("501", say(x, "pplllllll").link(), -200);
            due("501", say(x, "n2(p)llllll").link(), -200);
            due("THE LINK stays", x.count(5), 247);
            due("500", say(x, "n2(p)lllll").link(), 500);
            x.undo();
            due("500", say(x, "ppllllll").link(), 500);
            due("501", say(x, "pl").link(), -200);
            due("500", say(x, "p").link(), 500);
        });
        edge("6, link: -201: AGE above 6 (asked behind it); THE LINK stays then", () -> {
            InkFolds x = linked("lv", "p", "p", "p", "p");
            due("AGE 5", x.count(6), 5);
            due("AGE 6", say(x, "pl").link(), 3);
            due("AGE 6", x.count(6), 6);
            refusedText("p", -201, y -> y.link(), Edges::aged);
            refusedText("n0(p)", -201, y -> y.link(), Edges::aged);
            refusedText("lllp", -201, y -> y.link(), Edges::aged);
            refusedText("n9(n9(n9(p)))", -200, y -> y.link(), Edges::aged);
            refusedText("p?", -2, y -> y.link(), Edges::aged);
            due("without p", say(x, "l").link(), 1);
            due("AGE", x.count(6), 1);
            due("p again", say(x, "p").link(), 1);
            due("AGE", x.count(6), 2);
        });
        edge("6, link: LONG 500 of AGE 7 is -201", () -> {
            InkFolds x = aged();
            due("500", say(x, "n0(p)n9(n9(llllll))lll").link(), -201);
            due("501", say(x, "n0(p)n9(n9(llllll))llll").link(), -200);
        });
    }

    private static InkFolds aged() {
        InkFolds x = linked("am1", "p", "p", "pac1", "p", "p");
        x.colour(44);
        return x;
    }

    private static void picture() {
        edge("7, picture: an empty one: none", () -> {
            InkFolds x = full();
            due("empty", say(x, "").picture(), 0);
            due("how long", x.count(7), 0);
            due("how many", x.count(8), 0);
            due("press", x.press(0), -2);
        });
        edge("7, picture: rows of letters a .. h with / between: how many CELLS", () -> {
            InkFolds x = new InkFolds();
            for (int wide = 1; wide <= 8; wide++) {
                for (int high = 1; high <= 8; high++) {
                    String s = times(high - 1, "abcdefgh".substring(8 - wide) + "/") + times(wide, "a");
                    due("CELLS of " + s, say(x, s).picture(), wide * high);
                    due("how long", x.count(7), wide);
                    due("how many", x.count(8), high);
                }
                x = new InkFolds();
            }
        });
        edge("7, picture: the sign at p can't stand there: no letter a .. h", () -> {
            for (char c = 0; c < 256; c++) {
                if (c < 'a' || c > 'h') {
                    due("the sign " + (int) c, say(new InkFolds(), "a" + c).picture(), c == '/' ? -3 : -2);
                }
            }
            noPicture("`", 0);
            noPicture("i", 0);
            noPicture("abc/di", 5);
            noPicture("a.b", 1);
        });
        edge("7, picture: a ninth letter", () -> {
            noPicture("abcdefgha", 8);
            noPicture("abcdefghi", 8);
            noPicture("abcdefgh/abcdefgha", 17);
        });
        edge("7, picture: the / ahead of a ninth row", () -> {
            noPicture("a/b/c/d/e/f/g/h/", 15);
            noPicture("a/b/c/d/e/f/g/h/a", 15);
            noPicture(times(8, "abcdefgh/"), 71);
            noPicture(times(8, "ab/") + "ab", 23);
        });
        edge("7, picture: a letter or a / by which a row would be longer or shorter than the first one", () -> {
            noPicture("ab/abc", 5);
            noPicture("a/ab/a", 3);
            noPicture("ab/a/ab", 4);
            noPicture("abc/abc/ab/abc", 10);
            noPicture("abcdefgh/abcdefg/", 16);
        });
        edge("7, picture: a / without a letter ahead of it", () -> {
            noPicture("/", 0);
            noPicture("/a", 0);
            noPicture("a//a", 2);
            noPicture("ab/ab//", 6);
        });
        edge("7, picture: its end, if it ends too early", () -> {
            noPicture("a/", 2);
            noPicture("ab/a", 4);
            noPicture("ab/", 3);
            noPicture("abcdefgh/abcdefg", 16);
            noPicture(times(7, "abcdefgh/") + "abcdefg", 70);
        });
    }

    // ---- promises 8 to 10: light, bent, sheet

    private static void light() {
        edge("8, light: NoSuchElementException: none such", () -> {
            InkFolds x = new InkFolds();
            due("the first", x.light(0, 0), 100);
            due("the last", x.light(80, 2), 0);
            due("the last PLAIN one", x.light(54, 2), 80);
            int[] patches = {-1, 81, LEAST, MOST};
            int[] bands = {-1, 3, LEAST, MOST};
            for (int i = 0; i < 4; i++) {
                int patch = patches[i];
                int band = bands[i];
                refused("light(" + patch + ", 0)", 1, y -> thrown(() -> y.light(patch, 0)));
                refused("light(80, " + band + ")", 1, y -> thrown(() -> y.light(80, band)));
                refused("light(" + patch + ", " + band + ")", 1, y -> thrown(() -> y.light(patch, band)));
            }
        });
    }

    private static void bent() {
        edge("9, bent: NoSuchElementException: none such", () -> {
            InkFolds x = new InkFolds();
            due("the first", x.bent(0, 0), 0);
            due("the last", x.bent(3, 8), 8);
            int[] inks = {-1, 4, LEAST, MOST};
            int[] amounts = {-1, 9, LEAST, MOST};
            for (int i = 0; i < 4; i++) {
                int ink = inks[i];
                int amount = amounts[i];
                refused("bent(" + ink + ", 0)", 1, y -> thrown(() -> y.bent(ink, 0)));
                refused("bent(3, " + amount + ")", 1, y -> thrown(() -> y.bent(3, amount)));
                refused("bent(" + ink + ", " + amount + ")", 1, y -> thrown(() -> y.bent(ink, amount)));
            }
        });
    }

    /** The paper's LIGHT in BAND 0 by a sheet of one entry. */
    private static void entry(int kind, int f, int want) {
        InkFolds x = new InkFolds();
        due("sheet(" + kind + ", 1, " + f + ", 0)", x.sheet(kind, 1, f, 0), 2600 + want);
        due("light(0, 0) of " + f, x.light(0, 0), want);
    }

    private static void sheet() {
        edge("10, sheet: n entries f, f + step, .., those behind the last entry have 100: the sum of all", () -> {
            for (int n = 0; n <= 27; n++) {
                for (int kind = 0; kind <= 2; kind++) {
                    InkFolds x = full();
                    due("sheet of " + n, x.sheet(kind, n, 3, 2), n * 3 + n * (n - 1) + (27 - n) * 100);
                    for (int i = 0; i < 27; i++) {
                        due("LIGHT " + i + " of " + n, x.light(PLAIN[i / 3], i % 3), i < n ? 3 + 2 * i : 100);
                    }
                }
            }
            due("a step below 0", new InkFolds().sheet(1, 3, 10, -5), 10 + 5 + 0 + 2400);
        });
        edge("10, sheet: of bytes the lowest bits, with their sign; put to 0 .. 100", () -> {
            int[] f = {0, 99, 100, 101, 127, 128, 255, 256, 256 + 100, 256 + 101, 384, -1, -128, -129, -156, -157, LEAST, MOST, 65536 + 7};
            int[] want = {0, 99, 100, 100, 100, 0, 0, 0, 100, 100, 0, 0, 0, 100, 100, 99, 0, 0, 7};
            for (int i = 0; i < f.length; i++) {
                entry(0, f[i], want[i]);
            }
        });
        edge("10, sheet: of shorts the lowest bits, with their sign; put to 0 .. 100", () -> {
            int[] f = {0, 99, 100, 101, 128, 255, 256, 32767, 32768, 65535, 65536, 65536 + 99, -1, -32768, -32769, -65436, LEAST, MOST};
            int[] want = {0, 99, 100, 100, 100, 100, 100, 100, 0, 0, 0, 99, 0, 0, 100, 100, 0, 0};
            for (int i = 0; i < f.length; i++) {
                entry(1, f[i], want[i]);
            }
        });
        edge("10, sheet: ints; put to 0 .. 100", () -> {
            int[] f = {0, 1, 99, 100, 101, 256, 65536, MOST, -1, -65535, LEAST};
            int[] want = {0, 1, 99, 100, 100, 100, 100, 100, 0, 0, 0};
            for (int i = 0; i < f.length; i++) {
                entry(2, f[i], want[i]);
            }
        });
        edge("10, sheet: f, f + step, .. as ints wrap around", () -> {
            due("MOST, LEAST", new InkFolds().sheet(2, 2, MOST, 1), 2500 + 100 + 0);
            due("LEAST, MOST", new InkFolds().sheet(2, 2, LEAST, -1), 2500 + 0 + 100);
            due("MOST, -2, MOST - 2", new InkFolds().sheet(2, 3, MOST, MOST), 2400 + 100 + 0 + 100);
            due("5, 5 + LEAST, 5", new InkFolds().sheet(2, 3, 5, LEAST), 2400 + 5 + 0 + 5);
            due("shorts: 32760, 32768, 32776", new InkFolds().sheet(1, 3, 32760, 8), 2400 + 100 + 0 + 0);
            due("bytes: 120, 128 .., 256", new InkFolds().sheet(0, 27, 0, 128), 0);
            due("bytes: MOST and 9", new InkFolds().sheet(0, 2, MOST, 9), 2500 + 0 + 8);
            due("27 entries", new InkFolds().sheet(2, 27, 1, 1 << 28), 1 + 7 * 100 + 8 * 0 + 1 + 7 * 100 + 3 * 0);
        });
        edge("10, sheet: -2: n below 0 (of kinds 0 .. 2; nothing changes)", () -> {
            for (int kind = 0; kind <= 2; kind++) {
                int k = kind;
                refused("n -1", -2, x -> x.sheet(k, -1, 5, 5));
                refused("the least n", -2, x -> x.sheet(k, LEAST, 5, 5));
                due("n 0", new InkFolds().sheet(k, 0, 5, 5), 2700);
            }
        });
        edge("10, sheet: -3: missing (all 100)", () -> {
            for (int n : new int[] {0, 27, -1, LEAST}) {
                InkFolds x = full();
                due("missing", x.sheet(3, n, 5, 5), -3);
                for (int patch : PLAIN) {
                    due("LIGHT", x.light(patch, 0) + x.light(patch, 1) + x.light(patch, 2), 300);
                }
                due("a MEASURED one", x.light(40, 0), 50);
                due("MEASURED", x.count(0), 2);
            }
        });
        edge("10, sheet: NONE: another kind, n above 27 (these first)", () -> {
            for (int kind : new int[] {-1, 4, LEAST, MOST}) {
                refused("kind " + kind, -1, x -> x.sheet(kind, 0, 5, 5));
                refused("kind " + kind + ", n below 0", -1, x -> x.sheet(kind, -1, 5, 5));
                refused("kind " + kind + ", n 28", -1, x -> x.sheet(kind, 28, 5, 5));
            }
            for (int kind = 0; kind <= 3; kind++) {
                int k = kind;
                refused("n 28", -1, x -> x.sheet(k, 28, 5, 5));
                refused("the most n", -1, x -> x.sheet(k, MOST, 5, 5));
            }
        });
        edge("10, sheet: nothing is kept of it that could be undone (an undo() behind it brings LIGHT back, too)", () -> {
            InkFolds x = new InkFolds();
            x.sheet(2, 27, 5, 0);
            due("undo", x.undo(), -1);
            due("LIGHT", x.light(0, 0), 5);
            x.sets(0, 9);
            x.sheet(2, 27, 6, 0);
            due("undone", x.undo(), 0);
            due("LIGHT ahead of what is undone", x.light(54, 2), 5);
            x.sets(0, 9);
            x.sheet(3, 0, 0, 0);
            due("undone", x.undo(), 0);
            due("LIGHT ahead of what is undone", x.light(54, 2), 5);
            x = full();
            x.sheet(0, 27, 1, 1);
            due("what can be undone", x.count(9), 10);
        });
    }

    // ---- promises 11 to 16: changes

    private static void measure() {
        edge("11, measure: LIGHT 0 .. 100 in BANDS 0, 1, 2", () -> {
            InkFolds x = new InkFolds();
            due("all 0", x.measure(40, 0, 0, 0), 1);
            due("LIGHT", x.light(40, 0) + x.light(40, 1) + x.light(40, 2), 0);
            due("all 100", x.measure(40, 100, 100, 100), 1);
            due("LIGHT", x.light(40, 0) + x.light(40, 1) + x.light(40, 2), 300);
            noSuchColours("measure", 100, (y, r, q, b) -> y.measure(40, r, q, b));
            noSuchColours("measure of a PLAIN one", 100, (y, r, q, b) -> y.measure(0, r, q, b));
        });
        edge("11, measure: MEASURED if not PLAIN: how many are MEASURED then", () -> {
            InkFolds x = new InkFolds();
            due("the first", x.measure(0, 1, 2, 3), 0);
            due("the last", x.measure(80, 1, 2, 3), 1);
            due("again", x.measure(80, 1, 2, 3), 1);
            due("PLAIN", x.measure(54, 1, 2, 3), 1);
            due("the least that is not PLAIN", x.measure(4, 1, 2, 3), 2);
        });
        edge("11, measure: NONE: others", () -> {
            for (int patch : new int[] {-1, 81, LEAST, MOST}) {
                refused("PATCH " + patch, -1, x -> x.measure(patch, 1, 2, 3));
            }
        });
    }

    private static void forgets() {
        edge("12, forgets: a PATCH is not MEASURED any more: how many are left", () -> {
            InkFolds x = new InkFolds();
            for (int patch = 0; patch < 81; patch++) {
                x.measure(patch, 1, 2, 3);
            }
            int left = 72;
            for (int patch = 80; patch >= 0; patch--) {
                if (!isOneOf(PLAIN, patch)) {
                    left--;
                    due("forgets(" + patch + ")", x.forgets(patch), left);
                }
            }
            due("none is left", left, 0);
        });
        edge("12, forgets: -2: it was not, or is PLAIN", () -> {
            refused("never MEASURED", -2, x -> x.forgets(79));
            refused("never MEASURED", -2, x -> x.forgets(4));
            refused("forgotten", -2, x -> x.forgets(80), FULL);
            for (int patch : PLAIN) {
                refused("PLAIN", -2, x -> x.forgets(patch));
            }
            InkFolds x = new InkFolds();
            x.measure(27, 1, 2, 3);
            due("PLAIN and told", x.forgets(27), -2);
            due("its LIGHT", x.light(27, 0), 1);
        });
        edge("12, forgets: NONE: none such", () -> {
            for (int patch : new int[] {-1, 81, LEAST, MOST}) {
                refused("PATCH " + patch, -1, x -> x.forgets(patch));
            }
        });
    }

    private static final int[] LEAST_SET = {8, 0, 0, 0, 1, 1, 1};
    private static final int[] MOST_SET = {32, 4, 99999, 8, 9, 9, 9};
    private static final int[] FIRST_SET = {32, 2, 0, 8, 1, 1, 1};
    private static final int[] COUNT_OF_SET = {1, 2, 3, 4, 12, 13, 14};

    private static void sets() {
        edge("13, sets: LIMIT 8 .. 32, GREY 0 .. 4, SLACK 0 .. 99999, TOP 0 .. 8, WEIGHTS 1 .. 9: what it was", () -> {
            for (int what = 0; what < 7; what++) {
                InkFolds x = new InkFolds();
                int was = FIRST_SET[what];
                for (int v : new int[] {MOST_SET[what] - 1, MOST_SET[what], LEAST_SET[what] + 1, LEAST_SET[what]}) {
                    due("sets(" + what + ", " + v + ")", x.sets(what, v), was == v ? -2 : was);
                    was = v;
                    due("count(" + COUNT_OF_SET[what] + ")", x.count(COUNT_OF_SET[what]), v);
                    for (int other = 0; other < 7; other++) {
                        due("another one", x.count(COUNT_OF_SET[other]), other == what ? v : FIRST_SET[other]);
                    }
                }
            }
        });
        edge("13, sets: -2: it is so", () -> {
            for (int what = 0; what < 7; what++) {
                int w = what;
                for (Maker maker : ALL) {
                    int is = maker.make().count(COUNT_OF_SET[w]);
                    refused("what " + w, -2, x -> x.sets(w, is), maker);
                }
            }
        });
        edge("13, sets: NONE: others", () -> {
            for (int what = 0; what < 7; what++) {
                int w = what;
                for (int v : new int[] {LEAST_SET[w] - 1, MOST_SET[w] + 1, LEAST, MOST}) {
                    refused("sets(" + w + ", " + v + ")", -1, x -> x.sets(w, v));
                }
            }
            for (int what : new int[] {-1, 7, LEAST, MOST}) {
                refused("what " + what, -1, x -> x.sets(what, 8));
                refused("what " + what, -1, x -> x.sets(what, 1));
            }
        });
    }

    private static void paints() {
        edge("14, paints: COLOUR of a letter (0 .. 7) becomes r, q, b (0 .. 400): DISTANCE from what it was", () -> {
            InkFolds x = new InkFolds();
            for (int letter = 0; letter < 8; letter++) {
                due("the most", x.paints(letter, 400, 400, 400), 480000);
                due("the same", x.paints(letter, 400, 400, 400), 0);
                due("the least", x.paints(letter, 0, 0, 0), 480000);
                due("one more", x.paints(letter, 1, 0, 0), 1);
                due("others", x.paints(letter, 0, 2, 3), 1 + 4 + 9);
            }
            noSuchColours("paints", 400, (y, r, q, b) -> y.paints(3, r, q, b));
        });
        edge("14, paints: NONE: others", () -> {
            for (int letter : new int[] {-1, 8, LEAST, MOST}) {
                refused("letter " + letter, -1, x -> x.paints(letter, 1, 2, 3));
            }
        });
    }

    private static void day() {
        edge("15, day: an empty one: no ACTS", () -> {
            for (Maker maker : ALL) {
                InkFolds x = maker.make();
                int left = x.count(9);
                due("empty", say(x, "").day(), 0);
                row(x, 0);
                due("what can be undone", x.count(9), left);
                due("LIMIT", x.count(1), maker.make().count(1));
            }
        });
        edge("15, day: m and ten signs", () -> {
            InkFolds x = new InkFolds();
            due("three m", say(x, "m1111009930m0000010203m2222999999").day(), 3);
            due("MEASURED", x.count(0), 2);
            due("LIGHT", x.light(40, 0) * 10000 + x.light(40, 1) * 100 + x.light(40, 2), 9930);
            due("LIGHT", x.light(0, 2), 3);
            due("LIGHT", x.light(80, 2), 99);
            String good = "m2222999999";
            for (int p = 1; p < good.length(); p++) {
                String head = good.substring(0, p);
                String tail = good.substring(p + 1);
                noDay(head + (p < 5 ? "3" : ":") + tail, p);
                noDay(head + "/" + tail, p);
                noDay(head, p);
                noDay("t1" + head, p + 2);
            }
        });
        edge("15, day: f and four digits 0 .. 2", () -> {
            InkFolds x = full();
            due("f", say(x, "f1111f0111").day(), 2);
            row(x, 0);
            due("MEASURED", x.count(0), 0);
            due("it is not any more", say(x, "f1111").day(), 0);
            row(x, 1);
            due("PLAIN", say(x, "f0002").day(), 0);
            row(x, 1);
            String good = "f2222";
            for (int p = 1; p < good.length(); p++) {
                noDay(good.substring(0, p) + "3" + good.substring(p + 1), p);
                noDay(good.substring(0, p) + "/" + good.substring(p + 1), p);
                noDay(good.substring(0, p), p);
            }
        });
        edge("15, day: l and two digits", () -> {
            dayOf("l08", 1, 1, 8);
            dayOf("l07", 0, 1, 32);
            dayOf("l31", 1, 1, 31);
            dayOf("l32", 0, 1, 32);
            dayOf("l33", 0, 1, 32);
            dayOf("l00", 0, 1, 32);
            dayOf("l99", 0, 1, 32);
            dayOf("l09l32", 2, 1, 32);
            noDay("l", 1);
            noDay("l3", 2);
            noDay("l:0", 1);
            noDay("l/0", 1);
            noDay("l0:", 2);
            noDay("l0/", 2);
        });
        edge("15, day: g and a digit, t and a digit", () -> {
            dayOf("g0", 1, 2, 0);
            dayOf("g4", 1, 2, 4);
            dayOf("g2", 0, 2, 2);
            dayOf("g5", 0, 2, 2);
            dayOf("g9", 0, 2, 2);
            dayOf("t0", 1, 4, 0);
            dayOf("t7", 1, 4, 7);
            dayOf("t8", 0, 4, 8);
            dayOf("t9", 0, 4, 8);
            dayOf("t7t8", 2, 4, 8);
            for (String head : new String[] {"g", "t"}) {
                noDay(head, 1);
                noDay(head + ":", 1);
                noDay(head + "/", 1);
            }
        });
        dayOfWeightsAndLetters();
        dayIsTold();
        dayIsDone();
    }

    /** A day on a new object: how many were done, and what count() tells then. */
    private static void dayOf(String s, int done, int what, int is) {
        InkFolds x = new InkFolds();
        due("day " + s, say(x, s).day(), done);
        due("count(" + what + ") behind " + s, x.count(what), is);
        due("what can be undone behind " + s, x.count(9), done > 0 ? 1 : 0);
        row(x, done > 0 ? 0 : 1);
    }

    private static void dayOfWeightsAndLetters() {
        edge("15, day: w, a digit 0 .. 2 and a digit", () -> {
            for (int band = 0; band < 3; band++) {
                dayOf("w" + band + "9", 1, 12 + band, 9);
                dayOf("w" + band + "2", 1, 12 + band, 2);
                dayOf("w" + band + "1", 0, 12 + band, 1);
                dayOf("w" + band + "0", 0, 12 + band, 1);
            }
            noDay("w31", 1);
            noDay("w/1", 1);
            noDay("w", 1);
            noDay("w2", 2);
            noDay("w2:", 2);
            noDay("w2/", 2);
        });
        edge("15, day: e, a letter a .. h and three times two digits (each 4 times that)", () -> {
            InkFolds x = new InkFolds();
            due("all", say(x, "ea999999eh001002eh000000eh010203").day(), 4);
            due("396", x.paints(0, 396, 396, 396), 0);
            due("4, 8, 12", x.paints(7, 4, 8, 12), 0);
            due("the same", say(x, "eh010203").day(), 1);
            noDay("ei010203", 1);
            noDay("e`010203", 1);
            noDay("eH010203", 1);
            String good = "eh999999";
            for (int p = 1; p < good.length(); p++) {
                noDay(good.substring(0, p), p);
                noDay(good.substring(0, p) + ":" + good.substring(p + 1), p);
                noDay(good.substring(0, p) + "/" + good.substring(p + 1), p);
            }
        });
    }

    private static void dayIsTold() {
        edge("15, day: -1 - p: the sign at p can't stand there: no ACT", () -> {
            for (char c = 0; c < 256; c++) {
                if ("mflgtwe".indexOf(c) < 0) {
                    due("the sign " + (int) c, say(new InkFolds(), "" + c).day(), -1);
                    due("g1 and the sign " + (int) c, say(new InkFolds(), "g1" + c).day(), -3);
                }
            }
            noDay("g1 t1", 2);
            noDay("g1)", 2);
            noDay("s01", 0);
        });
        edge("15, day: 60, if it has more and the first 60 could go on or end", () -> {
            String sixty = times(15, "t0t1");
            due("60", say(new InkFolds(), sixty).day(), 30);
            noDay(sixty + "t", 60);
            noDay(sixty + "?", 60);
            noDay(sixty + times(10, "t0"), 60);
            noDay("w11" + sixty.substring(4) + "t4", 60);
            noDay("w11" + sixty.substring(4) + "t?", 60);
            noDay("w11" + sixty.substring(4) + "t", 60);
            noDay("w11" + sixty.substring(4) + "?4", 59);
            noDay(times(5, "m1111102030") + "m1111102030", 60);
            noDay(times(5, "m1111102030") + "m1111?02030", 60);
            noDay(times(5, "m1111102030") + "m111?102030", 59);
            noDay(times(29, "t0") + "t?0", 59);
            noDay(times(29, "t0") + "?00", 58);
        });
        edge("15, day: nothing is done then", () -> {
            noDay("t4g1w", 5);
            noDay("l09ea010203x", 11);
        });
    }

    private static void dayIsDone() {
        edge("15, day: done one by one, till one can't be (it answers below 0): how many were done; the ROW: 1, else 0", () -> {
            InkFolds x = new InkFolds();
            due("all", say(x, "g1t1l09").day(), 3);
            row(x, 0);
            due("two", say(x, "g3t2l09w19").day(), 2);
            row(x, 1);
            due("GREY", x.count(2), 3);
            due("TOP", x.count(4), 2);
            due("WEIGHT", x.count(13), 1);
            due("none", say(x, "t2g0").day(), 0);
            row(x, 1);
            due("GREY", x.count(2), 3);
            due("the last one can't be", say(x, "g1g1").day(), 1);
            row(x, 1);
            due("m and f again", say(x, "m0011010101f0011f0011t0").day(), 2);
            row(x, 1);
            due("TOP", x.count(4), 2);
        });
    }

    private static void undo() {
        edge("16, undo: refused: none", () -> {
            refused("none", -1, x -> x.undo(), FRESH);
            refused("none but refused ones", -1, x -> x.undo(), () -> {
                InkFolds x = new InkFolds();
                x.sets(0, 32);
                x.measure(81, 0, 0, 0);
                return x;
            });
            InkFolds x = half();
            for (int left = 5; left >= 0; left--) {
                due("undo", x.undo(), left);
            }
            due("no more", x.undo(), -1);
            due("no more", x.undo(), -1);
        });
        edge("16, undo: of 10 that are kept, the latest ones", () -> {
            for (int changes = 1; changes <= 25; changes++) {
                InkFolds x = new InkFolds();
                for (int i = 1; i <= changes; i++) {
                    due("change " + i, x.sets(2, i), i - 1);
                }
                int kept = Math.min(changes, 10);
                due("kept of " + changes, x.count(9), kept);
                for (int left = kept - 1; left >= 0; left--) {
                    due("undo", x.undo(), left);
                    due("SLACK", x.count(3), changes - kept + left);
                }
                due("no more", x.undo(), -1);
                due("SLACK", x.count(3), changes - kept);
            }
        });
        edge("16, undo: ten again behind an undone one", () -> {
            InkFolds x = new InkFolds();
            for (int i = 1; i <= 10; i++) {
                x.sets(2, i);
            }
            due("undo", x.undo(), 9);
            x.sets(2, 100);
            due("ten", x.count(9), 10);
            x.sets(2, 101);
            due("ten", x.count(9), 10);
            for (int want : new int[] {100, 9, 8, 7, 6, 5, 4, 3, 2, 1}) {
                x.undo();
                due("SLACK", x.count(3), want);
            }
            due("no more", x.undo(), -1);
        });
        edge("16, undo: each change by its own, with empty texts, too", () -> {
            Call[] changes = {x -> say(x, "1111102030").patches(), x -> say(x, "000000000").curve(1), x -> say(x, "sc8").link(),
                x -> say(x, "a").picture(), x -> x.measure(9, 1, 2, 3), x -> x.forgets(40), x -> x.sets(5, 9), x -> x.paints(4, 9, 9, 9),
                x -> say(x, "t3").day(), x -> say(x, "").patches(), x -> say(x, "").curve(1), x -> say(x, "").link(),
                x -> say(x, "").picture(), x -> say(x, "t3t3").day(), x -> say(x, "dd/dd").picture()};
            for (int i = 0; i < changes.length; i++) {
                InkFolds x = half();
                yes("change " + i, changes[i].of(x) >= 0);
                due("what can be undone", x.count(9), 7);
                due("undo", x.undo(), 6);
                say(x, "0");
                if (!told(x).equals(told(half()))) {
                    fault("something is not as ahead of change " + i);
                }
            }
        });
        edge("16, undo: only such as were done", () -> {
            Call[] none = {x -> x.forgets(41), x -> x.sets(0, x.count(1)), x -> x.measure(0, 101, 0, 0), x -> x.paints(8, 0, 0, 0),
                x -> x.sheet(0, 0, 0, 0) - 10000, x -> say(x, "t").day(), x -> say(x, "t9").day() - 1, x -> say(x, "").day() - 1,
                x -> say(x, "?").link(), x -> say(x, "?").patches(), x -> say(x, "?").picture(), x -> say(x, "?").curve(0),
                x -> x.again(2) ? 1 : -1, x -> x.keep(0) ? -1 : 1};
            for (int i = 0; i < none.length; i++) {
                InkFolds x = half();
                yes("call " + i, none[i].of(x) < 0);
                due("what can be undone behind call " + i, x.count(9), 6);
                due("undo", x.undo(), 5);
                due("the letter c", x.paints(2, 0, 0, 0), 0);
            }
        });
        edge("16, undo: day() of which one ACT was done, as one", () -> {
            InkFolds x = new InkFolds();
            due("one of two", say(x, "t3t3").day(), 1);
            due("four", say(x, "t4g4w09m1111102030").day(), 4);
            due("what can be undone", x.count(9), 2);
            due("undo", x.undo(), 1);
            due("all of them", x.count(4) * 100 + x.count(2) * 10 + x.count(12), 321);
            due("all of them", x.count(0), 0);
            due("undo", x.undo(), 0);
            due("TOP", x.count(4), 8);
        });
        edge("16, undo: again() forgets them, if it is not refused", () -> {
            InkFolds x = full();
            no("refused", x.again(2));
            due("ten", x.count(9), 10);
            yes("not refused", x.again(0));
            due("none", x.count(9), 0);
            due("undo", x.undo(), -1);
            x.sets(2, 5);
            due("one", x.count(9), 1);
            due("undo", x.undo(), 0);
            x = half();
            no("nothing kept", x.again(0));
            due("six", x.count(9), 6);
        });
        edge("16, undo: THE TEXT, the ROW, what is kept stay", () -> {
            InkFolds x = full();
            x.keep(0);
            x.sets(0, 11);
            due("undo", x.undo(), 9);
            due("signs", x.count(11), 5);
            due("numbers of the ROW", x.count(10), 3);
            yes("kept", x.again(0));
        });
    }

    // ---- promises 17 to 27: colours

    private static void coloursAndMatches() {
        edge("17, colour: NONE: no such CODE", () -> {
            for (int code : LAST_CODES) {
                yes("colour(" + code + ")", new InkFolds().colour(code) >= 0);
            }
            noSuchCodes("colour", (x, code) -> x.colour(code));
        });
        edge("18, limited: n 8 .. 32; NONE: others", () -> {
            for (int n = 8; n <= 32; n++) {
                int most = (n - 8) / 3;
                due("limited(8888, " + n + ")", new InkFolds().limited(8888, n), most * 1110 + 8);
            }
            for (int n : new int[] {7, 33, 0, -1, LEAST, MOST}) {
                refused("limited to " + n, -1, x -> x.limited(0, n));
            }
            noSuchCodes("limited", (x, code) -> x.limited(code, 8));
        });
        edge("19, match: NONE: one is not 0 .. 400", () -> noSuchColours("match", 400, (x, r, q, b) -> x.match(r, q, b)));
        edge("20, fold: NONE: one is not 0 .. 400", () -> noSuchColours("fold", 400, (x, r, q, b) -> x.fold(r, q, b)));
        edge("21, prints: NONE: one is not 0 .. 400", () -> noSuchColours("prints", 400, (x, r, q, b) -> x.prints(r, q, b)));
        edge("21, prints: MATCH of what THE FOLD makes of them; DISTANCE to r, q, b", () -> {
            InkFolds x = stairs(0);
            due("M 133, nearest to 150", x.prints(400, 0, 0), 5000);
            row(x, 150, 150, 150, 250 * 250 + 2 * 150 * 150);
            due("M 132, nearest to 150", x.prints(0, 397, 1), 5000);
            row(x, 150, 150, 150, 150 * 150 + 247 * 247 + 149 * 149);
            due("M 175 is a draw, less ink", x.prints(350, 175, 0), 4000);
            due("M 174", x.prints(0, 174, 348), 5000);
        });
        edge("21, prints: done by THE LINK, what is not OPEN too", () -> {
            InkFolds x = stairs(0);
            x.sets(0, 8);
            say(x, "ac8am8").link();
            due("more than LIMIT", x.prints(0, 0, 0), 8800);
            row(x, 0, 0, 0, 0);
            say(x, "").link();
            due("no LINK", x.prints(0, 0, 0), 8000);
        });
        edge("22, ramp: NONE: no such CODES", () -> {
            noSuchCodes("ramp from", (x, code) -> x.ramp(code, 0));
            noSuchCodes("ramp to", (x, code) -> x.ramp(8888, code));
            for (int code : LAST_CODES) {
                yes("ramp", full().ramp(code, 8888 - code) >= 0);
            }
        });
        edge("22, ramp: (the second less the first) times k by 8 (cut to 0), k 0 .. 8", () -> {
            InkFolds x = white();
            x.measure(27, 99, 99, 99);
            x.measure(54, 98, 98, 98);
            x.sets(1, 0);
            due("8 CODES down", x.ramp(0, 8000), 1);
            row(x, 0, 1000, 2000, 3000, 4000, 5000, 6000, 7000, 8000);
            due("4 down", x.ramp(0, 4000), 1);
            row(x, 0, 0, 1000, 1000, 2000, 2000, 3000, 3000, 4000);
            due("4 up", x.ramp(4000, 0), 1);
            row(x, 4000, 4000, 3000, 3000, 2000, 2000, 1000, 1000, 0);
            due("alike", x.ramp(3000, 3000), 0);
            row(x, 3000, 3000, 3000, 3000, 3000, 3000, 3000, 3000, 3000);
        });
        edge("22, ramp: nine CODES, from k 0 to 8, by how much one AMOUNT changes at most", () -> {
            InkFolds x = white();
            x.measure(54, 50, 50, 50);
            x.measure(1, 94, 94, 94);
            x.sets(1, 0);
            x.sets(3, 0);
            due("400 .. 376 are nearer to 400 than to 350", x.ramp(0, 4), 0);
            row(x, 0, 0, 0, 0, 0, 0, 0, 0, 0);
            x.sets(3, 8);
            x.measure(1, 93, 93, 93);
            x.sets(3, 0);
            due("372 is nearer to 350", x.ramp(0, 4), 5);
            row(x, 0, 0, 0, 0, 0, 0, 0, 0, 5000);
            x.measure(1, 37, 37, 37);
            x.measure(54, 36, 36, 36);
            due("from 400 to 336 at once", x.ramp(0, 3), 5);
            due("CODE 0 is the first", x.row(0), 0);
        });
        edge("22, ramp: each BAND goes its own way", () -> {
            InkFolds x = new InkFolds();
            due("one ink", x.ramp(4000, 0), 1);
            row(x, 4000, 3000, 3000, 2000, 2000, 1000, 1000, 0, 0);
            due("one ink", x.ramp(0, 400), 1);
            row(x, 0, 0, 100, 100, 200, 200, 300, 300, 400);
            due("one ink", x.ramp(40, 0), 1);
            row(x, 40, 30, 30, 20, 20, 10, 10, 0, 0);
        });
    }

    private static void way() {
        edge("23, way: DISTANCE of COLOURS of each and the next at most d", () -> {
            InkFolds x = stairs(0);
            due("as much as d", x.way(0, 3000, 7500), 3);
            row(x, 1000);
            due("one more than d", x.way(0, 3000, 7499), -2);
            due("without DISTANCE, d 0", x.way(0, 333, 0), 9);
            row(x, 1);
            due("d below 0", x.way(0, 1, -1), -2);
            due("the most", x.way(0, 8888, MOST), 32);
            due("the least", x.way(0, 1, LEAST), -2);
        });
        edge("23, way: of as few the least; nothing without", () -> {
            InkFolds x = white();
            due("one change", x.way(8888, 8887, 0), 1);
            row(x, 8887);
            due("the least first change", x.way(1111, 0, 0), 4);
            row(x, 111);
            due("the least first change", x.way(1111, 2222, 0), 4);
            row(x, 1112);
            due("to CODE 0", x.way(1, 0, 0), 1);
            row(x, 0);
            due("by CODE 0", x.way(1, 1000, 0), 2);
            row(x, 0);
            due("no change", x.way(1111, 1111, 0), 0);
            row(x);
            due("no change, d below 0", x.way(8888, 8888, -1), 0);
            row(x);
        });
        edge("23, way: AMOUNTS 0 .. 8 do not wrap around", () -> {
            InkFolds x = white();
            due("8 of y to 1 of m", x.way(80, 100, 0), 9);
            due("8 of k to 1 of y", x.way(8, 10, 0), 9);
            due("1 of c to 8 of m", x.way(1000, 800, 0), 9);
        });
        edge("23, way: all on the way OPEN (these two, too)", () -> {
            InkFolds x = white();
            x.sets(0, 8);
            x.sets(3, 4);
            due("TOTAL 8", x.way(4400, 4400, 0), 0);
            due("TOTAL 9", x.way(4500, 4500, 0), -2);
            due("from TOTAL 9", x.way(4500, 4400, 0), -2);
            due("to TOTAL 9", x.way(4400, 4500, 0), -2);
            due("k 4", x.way(4, 0, 0), 4);
            due("k 5", x.way(5, 4, 0), -2);
            due("to k 5", x.way(4, 5, 0), -2);
            due("full: down first", x.way(8000, 7100, 0), 2);
            row(x, 7000);
        });
        edge("23, way: -2: there is no way", () -> {
            refused("d below 0", -2, x -> x.way(0, 1, -1));
            refused("not OPEN", -2, x -> x.way(0, 8888, MOST), HALF, FULL);
            refused("not OPEN", -2, x -> x.way(8888, 8888, MOST), HALF, FULL);
            InkFolds x = white();
            x.measure(3, 0, 0, 0);
            x.measure(30, 100, 100, 100);
            x.sets(0, 12);
            due("round about, by four of c", x.way(0, 80, 0), 16);
            row(x, 1000);
            x.sets(0, 11);
            due("twelve are too many", x.way(0, 80, 0), -2);
            row(x, 1000);
            due("straight", x.way(0, 80, 30000), 8);
        });
        edge("23, way: NONE: no such CODES", () -> {
            noSuchCodes("way from", (x, code) -> x.way(code, 0, 5));
            noSuchCodes("way to", (x, code) -> x.way(0, code, 5));
            noSuchCodes("way, not OPEN", (x, code) -> x.way(8888, code, -1));
        });
    }

    private static void risesAndReach() {
        edge("24, rises: LIGHT of the PATCH with one LEVEL more is greater", () -> {
            InkFolds x = white();
            for (int ink = 0; ink < 4; ink++) {
                due("all alike", x.rises(ink), 0);
                row(x);
            }
            for (int patch : PLAIN) {
                x.measure(patch, 50, 50, 50);
            }
            x.measure(80, 50, 51, 50);
            for (int ink = 0; ink < 4; ink++) {
                due("to 2222 alone", x.rises(ink), 1);
                row(x, 80 - new int[] {27, 9, 3, 1}[ink], 1);
            }
            x.measure(80, 50, 50, 50);
            due("equal", x.rises(3), 0);
            row(x);
        });
        edge("24, rises: PATCHES of which the LEVEL of it is 0 or 1", () -> {
            InkFolds x = new InkFolds();
            for (int patch = 0; patch < 81; patch++) {
                x.measure(patch, patch % 3 * 10, patch % 3 * 10, patch % 3 * 10);
            }
            due("54 PATCHES, 3 BANDS", x.rises(3), 162);
            row(x, 0, 0);
            due("no other ink", x.rises(0) + x.rises(1) + x.rises(2), 0);
            for (int patch = 0; patch < 81; patch++) {
                x.measure(patch, patch / 27 * 10, 90 - patch / 27 * 10, 0);
            }
            due("54 PATCHES, BAND 0", x.rises(0), 54);
            row(x, 0, 0);
            due("none", x.rises(1), 0);
        });
        edge("24, rises: the first of these PATCHES, the first such BAND of it (nothing without)", () -> {
            InkFolds x = white();
            x.measure(79, 100, 100, 99);
            due("the last PATCH, the last BAND", x.rises(3), 1);
            row(x, 79, 2);
            x.measure(2, 50, 50, 50);
            x.measure(0, 50, 50, 100);
            yes("the first PATCH", x.rises(0) > 0);
            row(x, 0, 0);
        });
        edge("24, rises: NONE: no such ink", () -> {
            for (int ink : new int[] {-1, 4, LEAST, MOST}) {
                refused("ink " + ink, -1, x -> x.rises(ink));
            }
        });
        edge("25, reach: the least, its least CODE, the greatest, its least CODE", () -> {
            InkFolds x = white();
            due("all alike", x.reach(0), 0);
            row(x, 400, 0, 400, 0);
            x.measure(80, 100, 100, 0);
            due("2222 alone", x.reach(2), 400);
            row(x, 0, 8888, 400, 0);
            x.measure(0, 100, 100, 50);
            x.measure(1, 100, 100, 100);
            due("not the paper", x.reach(2), 400);
            row(x, 0, 8888, 400, 4);
            x.sets(0, 31);
            due("OPEN ones", x.reach(2), 300);
            row(x, 100, 7777, 400, 4);
        });
        edge("25, reach: NONE: no such BAND", () -> {
            yes("the first", full().reach(0) >= 0);
            yes("the last", full().reach(2) >= 0);
            for (int band : new int[] {-1, 3, LEAST, MOST}) {
                refused("BAND " + band, -1, x -> x.reach(band));
            }
        });
    }

    /** Asks for COLOURS of all OPEN ones, of a few of each object. */
    private static void spreadOf(Maker maker) {
        InkFolds x = maker.make();
        int limit = x.count(1);
        int top = x.count(4);
        Map<String, Integer> howMany = new HashMap<>();
        Map<String, Integer> leastCode = new HashMap<>();
        int open = 0;
        for (int code = 0; code <= 8888; code++) {
            int total = code / 1000 + code / 100 % 10 + code / 10 % 10 + code % 10;
            if (!fitsCode(code) || total > limit || code % 10 > top) {
                continue;
            }
            if (open % 100 == 0) {
                x = maker.make();
            }
            open++;
            x.colour(code);
            String colour = x.row(0) + " " + x.row(1) + " " + x.row(2);
            howMany.merge(colour, 1, Integer::sum);
            leastCode.putIfAbsent(colour, code);
        }
        String best = "";
        for (String colour : howMany.keySet()) {
            int more = best.isEmpty() ? 1 : howMany.get(colour) - howMany.get(best);
            if (more > 0 || more == 0 && leastCode.get(colour) < leastCode.get(best)) {
                best = colour;
            }
        }
        x = maker.make();
        due("spread", x.spread(), howMany.size());
        row(x, howMany.get(best), leastCode.get(best), open);
    }

    private static void spreadAndOdds() {
        edge("26, spread: of equally many the one of which the least CODE is least", () -> {
            InkFolds x = stairs(0);
            due("nine", x.spread(), 9);
            row(x, 729, 0, 6561);
            x = stairs(0);
            x.sets(0, 8);
            x.sets(3, 0);
            x.measure(54, 50, 50, 50);
            due("five", x.spread(), 5);
            row(x, 45, 0, 165);
            x.measure(27, 100, 100, 100);
            x.measure(54, 0, 0, 0);
            due("c 0 .. 4, then 5 .. 8", x.spread(), 5);
            row(x, 45 + 36 + 28 + 21 + 15, 0, 165);
            x = white();
            x.measure(27, 0, 0, 0);
            x.measure(54, 0, 0, 0);
            due("c 4 .. 8 are the most", x.spread(), 5);
            row(x, 5 * 729, 4000, 6561);
            x = white();
            x.measure(1, 96, 96, 96);
            x.measure(2, 99, 99, 99);
            due("one of k is as eight of k", x.spread(), 8);
            row(x, 2 * 729, 1, 6561);
        });
        edge("26, spread: how many different COLOURS", () -> {
            for (Maker maker : ALL) {
                spreadOf(maker);
            }
        });
        edge("26, spread: one BAND makes another COLOUR", () -> {
            for (int band = 0; band < 3; band++) {
                InkFolds x = white();
                x.measure(1, band == 0 ? 99 : 100, band == 1 ? 99 : 100, band == 2 ? 99 : 100);
                due("k 0 .. 4, and back", x.spread(), 5);
                row(x, 2 * 729, 0, 6561);
            }
        });
        edge("27, odds: d or less", () -> {
            InkFolds x = stairs(0);
            due("answer", x.odds(350, 350, 350, 7499), 0);
            row(x, 1, 9);
            due("answer", x.odds(350, 350, 350, 7500), 0);
            row(x, 1, 3);
            x.odds(350, 350, 350, 0);
            row(x, 1, 9);
            x.odds(350, 350, 350, -1);
            row(x, 0, 1);
            x.odds(350, 350, 350, LEAST);
            row(x, 0, 1);
            x.odds(350, 350, 350, MOST);
            row(x, 1, 1);
            x.sets(0, 8);
            x.sets(3, 0);
            x.odds(0, 0, 0, 0);
            row(x, 1, 165);
            x.odds(0, 0, 0, 7500);
            row(x, 4, 165);
        });
        edge("27, odds: NONE: one of r, q, b is not 0 .. 400", () -> noSuchColours("odds", 400, (x, r, q, b) -> x.odds(r, q, b, 5)));
    }

    // ---- promises 28 to 33: the link, pictures

    private static void throughTheLink() {
        edge("28, through: NONE: no such CODE", () -> {
            for (int code : LAST_CODES) {
                due("through", linked("").through(code), code);
            }
            noSuchCodes("through", (x, code) -> x.through(code));
        });
        edge("29, sources: all there are, OPEN or not; the least and the greatest of them (nothing without)", () -> {
            InkFolds x = linked("hc");
            x.sets(0, 8);
            x.sets(3, 0);
            due("two", x.sources(4888), 1);
            row(x, 8888, 8888);
            due("two", x.sources(3888), 2);
            row(x, 6888, 7888);
            due("the least", x.sources(0), 2);
            row(x, 0, 1000);
            due("none", x.sources(5000), 0);
            row(x);
            x = linked("wc0wm0wy0wk0");
            due("all", x.sources(0), 6561);
            row(x, 0, 8888);
            due("none", x.sources(1), 0);
            row(x);
            due("no LINK", linked("").sources(8888), 1);
        });
        edge("29, sources: NONE: no such CODE", () -> noSuchCodes("sources", (x, code) -> x.sources(code)));
        edge("30, rounds: till one comes that was there (the first one, too)", () -> {
            InkFolds x = linked("xcmxmyxyk");
            due("the first one comes again", x.rounds(8765), 0);
            row(x, 4, 5876);
            due("the same at once", x.rounds(3333), 0);
            row(x, 1, 3333);
            x = linked("sc1");
            due("the last of nine", x.rounds(8000), 8);
            row(x, 1, 0);
            due("the second", x.rounds(1000), 1);
            row(x, 1, 0);
            due("itself", x.rounds(0), 0);
            row(x, 1, 0);
            x = linked("xcmwc5");
            due("two by turns", x.rounds(8600), 2);
            row(x, 1, 5500);
            due("two by turns", x.rounds(8300), 2);
            row(x, 2, 3500);
            x = linked("");
            due("no LINK", x.rounds(8888), 0);
            row(x, 1, 8888);
        });
        edge("30, rounds: many come by turns", () -> {
            // k counts 0 .. 8, y 0 .. 7 at each turn of k; c is 0 behind the first time
            InkFolds x = linked("wc0ac1ik7(sk8ay1sc1)oc(ak1)wc0iy7(sy8)");
            due("all of them", x.rounds(0), 0);
            row(x, 72, 0);
            due("all but the first", x.rounds(8888), 1);
            row(x, 72, 800);
            due("all but the first", x.rounds(1234), 1);
            row(x, 72, 200);
            due("the last of them", x.rounds(78), 0);
            row(x, 72, 0);
        });
        edge("30, rounds: NONE: no such CODE", () -> noSuchCodes("rounds", (x, code) -> x.rounds(code)));
    }

    /** Ink c takes 50 for each AMOUNT; letters have these numbers in all BANDS. */
    private static InkFolds painted(String picture, int... numbers) {
        InkFolds x = stairs(0);
        for (int letter = 0; letter < numbers.length; letter++) {
            x.paints(letter, numbers[letter], numbers[letter], numbers[letter]);
        }
        return say(x, picture);
    }

    /** The CODES of the CELLS. */
    private static void printed(String what, InkFolds x, int how, int... want) {
        yes(what, x.picture() == want.length);
        for (int i = 0; i < want.length; i++) {
            due(what + ", cell(" + how + ", " + i + ")", x.cell(how, i), want[i]);
        }
    }

    private static void presses() {
        edge("31, press: -2: no PICTURE; NONE: another how", () -> {
            for (int how : new int[] {-1, 2, LEAST, MOST}) {
                refused("press(" + how + ")", -1, x -> x.press(how));
            }
            for (int how = 0; how <= 1; how++) {
                int h = how;
                refused("no PICTURE", -2, x -> x.press(h), FRESH);
                yes("a PICTURE", full().press(h) > 0);
                InkFolds x = painted("a", 400);
                x.picture();
                due("one CELL", x.press(h), 1);
                row(x, 0, 0, 0, 0, 0);
            }
        });
        edge("31, press: 0: each CELL by MATCH of COLOUR of its letter", () -> {
            printed("each by itself", painted("ab/ba", 370, 385), 0, 1000, 0, 0, 1000);
            InkFolds x = painted("ab/ba", 370, 385);
            x.picture();
            due("press", x.press(0), 2);
            row(x, 2, 0, 0, 0, 2 * 3 * 400 + 2 * 3 * 225);
        });
        edge("31, press: each BAND by itself, as its WEIGHT is", () -> {
            InkFolds x = new InkFolds();
            x.paints(0, 350, 390, 390);
            x.paints(1, 390, 350, 390);
            x.paints(2, 390, 390, 350);
            x.paints(3, 400, 400, 400);
            say(x, "abc/dda");
            for (int how = 0; how <= 1; how++) {
                printed("each is there", say(x, "abc/dda"), how, 1000, 100, 10, 0, 0, 1000);
                due("four CODES", x.press(how), 4);
                row(x, 2, 1, 1, 0, 0);
            }
            x.paints(3, 400, 398, 395);
            due("0 is next to 400, 398, 395", x.press(0), 4);
            row(x, 2, 1, 1, 0, 2 * (4 + 25));
            x.sets(5, 3);
            x.press(0);
            row(x, 2, 1, 1, 0, 2 * (12 + 25));
            x.sets(6, 2);
            x.press(0);
            row(x, 2, 1, 1, 0, 2 * (12 + 50));
        });
        edge("31, press: 1: handed on: half (cut to 0) to the right, the rest below", () -> {
            printed("-15: -7, -8", painted("aa/aa", 385), 1, 0, 0, 0, 1000);
            printed("15: 7, 8 of 365", painted("ab", 365, 370), 1, 1000, 0);
            printed("15: 7 is not 5 more", painted("ab", 365, 367), 1, 1000, 1000);
            printed("15: 7 is enough for 368", painted("ab", 365, 369), 1, 1000, 0);
            printed("15: 8 below for 368", painted("a/b", 365, 368), 1, 1000, 0);
            printed("15: 7 for 368 is a draw, less ink", painted("ab", 365, 368), 1, 1000, 0);
            printed("15: 7 for 367", painted("a/b", 365, 367), 1, 1000, 0);
            printed("15: 8 for 366", painted("a/b", 365, 366), 1, 1000, 1000);
            printed("-15: -7 for 382", painted("ab", 385, 382), 1, 0, 0);
            printed("-15: -7 for 381", painted("ab", 385, 381), 1, 0, 1000);
            printed("-15: -8 for 383", painted("a/b", 385, 383), 1, 0, 0);
            printed("-15: -8 for 382", painted("a/b", 385, 382), 1, 0, 1000);
            printed("1: 0 to the right", painted("ab", 351, 374), 1, 1000, 1000);
            printed("1: 1 below", painted("a/b", 351, 374), 1, 1000, 0);
            printed("-1: 0 to the right", painted("ab", 349, 375), 1, 1000, 0);
            printed("-1: -1 below", painted("a/b", 349, 375), 1, 1000, 1000);
        });
        edge("31, press: how many different CODES there are; the ROW: sums of AMOUNTS, and of DISTANCES to the letters", () -> {
            InkFolds x = painted("aa/aa", 385);
            x.picture();
            due("each by itself", x.press(0), 1);
            row(x, 0, 0, 0, 0, 4 * 675);
            due("handed on", x.press(1), 2);
            row(x, 1, 0, 0, 0, 3 * 675 + 3 * 35 * 35);
            x.sets(1, 4);
            due("with as much black as there can be", x.press(0), 1);
            row(x, 0, 0, 0, 32, 4 * 675);
            x = say(new InkFolds(), times(7, "hhhhhhhh/") + "hhhhhhhh");
            x.paints(7, 400, 0, 400);
            x.sets(4, 9);
            x.sets(5, 9);
            x.sets(6, 9);
            due("64 CELLS", x.picture(), 64);
            due("one CODE", x.press(0), 1);
            int code = x.cell(0, 0);
            long[] is = {x.row(0), x.row(1), x.row(2), x.row(3), x.row(4)};
            x.match(400, 0, 400);
            long distance = x.row(0);
            for (int ink = 3, rest = code; ink >= 0; ink--, rest /= 10) {
                due("64 times an AMOUNT", is[ink], 64 * (rest % 10));
            }
            due("64 times the DISTANCE", is[4], 64 * distance);
        });
        edge("31, press: 1: WANTED put to 0 .. 400", () -> {
            printed("409 is 400, nothing is left", painted("abc", 370, 399, 374), 1, 1000, 0, 1000);
            printed("-9 is 0, nothing is left", painted("abc", 30, 1, 25), 1, 7000, 8000, 7000);
        });
        edge("31, press: 1: what would come to none is lost", () -> {
            printed("the right end", painted("ab/cb", 400, 380, 375), 1, 0, 0, 0, 1000);
            printed("a row's end does not come to the next row", painted("ab/ca", 400, 380, 384), 1, 0, 0, 0, 0);
            printed("one CELL", painted("a", 380), 1, 0);
        });
    }

    private static void cells() {
        edge("32, cell: NONE: another how; -2: no PICTURE (asked behind it); NONE: no such CELL (asked behind that)", () -> {
            for (int how : new int[] {-1, 2, LEAST, MOST}) {
                refused("another how", -1, x -> x.cell(how, 0));
                refused("another how, no CELL", -1, x -> x.cell(how, -1));
            }
            for (int how = 0; how <= 1; how++) {
                int h = how;
                for (int i : new int[] {0, -1, 64, LEAST, MOST}) {
                    refused("no PICTURE", -2, x -> x.cell(h, i), FRESH);
                }
                for (int i : new int[] {-1, LEAST, MOST}) {
                    refused("no CELL " + i, -1, x -> x.cell(h, i), HALF, FULL);
                }
                refused("no CELL 4 of 4", -1, x -> x.cell(h, 4), HALF);
                refused("no CELL 16 of 16", -1, x -> x.cell(h, 16), FULL);
                yes("CELL 3 of 4", half().cell(h, 3) >= 0);
                yes("CELL 15 of 16", full().cell(h, 15) >= 0);
                InkFolds x = say(new InkFolds(), times(7, "abcdefgh/") + "abcdefgh");
                x.picture();
                yes("CELL 63 of 64", x.cell(h, 63) >= 0);
                due("CELL 64 of 64", x.cell(h, 64), -1);
            }
        });
        edge("33, slips: x to the left of it and y above (-8 .. 8; 0 if there is none)", () -> {
            InkFolds x = painted(times(7, "baaaaaaa/") + "aaaaaaab", 400, 350);
            x.picture();
            due("not at all", x.slips(0, 0, 0), 0);
            row(x, 0);
            due("seven to the left: seven into the last column", x.slips(0, 7, 0), 7 + 1 + 7);
            row(x, 15 * 7500);
            due("eight to the left: 0", x.slips(0, 8, 0), 8);
            row(x, 8 * 7500);
            due("eight to the right: 0", x.slips(0, -8, 0), 8);
            due("eight above: 0", x.slips(0, 0, 8), 8);
            due("eight below: 0", x.slips(0, 0, -8), 8);
            due("both", x.slips(0, -8, 8), 8);
            due("seven to the right: the last one into the first column", x.slips(0, -7, 0), 9);
            due("seven above: the first one into the last row", x.slips(0, 0, 7), 9);
            due("seven below: the last one into the first row", x.slips(0, 0, -7), 9);
            due("from the first CELL to the last one, where one is", x.slips(0, 7, 7), 7);
            row(x, 7 * 7500);
            due("another ink", x.slips(1, 8, 8), 0);
            row(x, 0);
        });
        edge("33, slips: PICTURE of one column, of one row, of one CELL", () -> {
            InkFolds x = painted("b/a/a", 400, 350);
            x.picture();
            due("one above", x.slips(0, 0, 1), 2);
            row(x, 2 * 7500);
            due("one below", x.slips(0, 0, -1), 1);
            row(x, 7500);
            due("one to the left: 0", x.slips(0, 1, 0), 1);
            x = painted("baa", 400, 350);
            x.picture();
            due("one to the left", x.slips(0, 1, 0), 2);
            row(x, 2 * 7500);
            due("one to the right", x.slips(0, -1, 0), 1);
            due("one above: 0", x.slips(0, 0, 1), 1);
            x = painted("b", 400, 350);
            x.picture();
            due("the CELL itself", x.slips(0, 0, 0), 0);
            due("none", x.slips(0, 0, 1), 1);
            row(x, 7500);
        });
        edge("33, slips: -2: no PICTURE; NONE: others", () -> {
            refused("no PICTURE", -2, x -> x.slips(0, 0, 0), FRESH);
            refused("no PICTURE", -2, x -> x.slips(3, -8, 8), FRESH);
            for (int ink : new int[] {-1, 4, LEAST, MOST}) {
                refused("ink " + ink, -1, x -> x.slips(ink, 0, 0));
            }
            for (int v : new int[] {-9, 9, LEAST, MOST}) {
                refused("x " + v, -1, x -> x.slips(0, v, 0));
                refused("y " + v, -1, x -> x.slips(3, 0, v));
            }
            for (int ink = 0; ink < 4; ink++) {
                yes("ink " + ink, full().slips(ink, 8, -8) >= 0);
                yes("ink " + ink, full().slips(ink, -8, 8) >= 0);
            }
        });
    }

    // ---- promises 34 to 40

    private static void greysAndReplaces() {
        edge("34, greys: the greatest and the least number differ by d or less", () -> {
            InkFolds x = white();
            x.measure(3, 100, 100, 99);
            x.measure(6, 100, 100, 98);
            for (int d = 0; d <= 8; d++) {
                due("d " + d, x.greys(0, d), 81 * (d + 1));
                row(x, d * 10, 1200 - d, 0, 1200);
            }
            due("the most", x.greys(0, MOST), 729);
            due("below 0", x.greys(0, -1), 0);
            row(x);
            due("the least", x.greys(8, LEAST), 0);
            row(x);
        });
        edge("34, greys: each of the three numbers can be the greatest, and the least", () -> {
            for (int band = 0; band < 3; band++) {
                InkFolds x = white();
                int least = band;
                x.measure(27, least == 0 ? 99 : 100, least == 1 ? 99 : 100, least == 2 ? 99 : 100);
                x.measure(54, 100, 100, 100);
                due("one BAND is less, d 0: of c 0 and 8", x.greys(0, 0), 2 * 81);
                due("one BAND is less, d 3: not of c 4", x.greys(0, 3), 8 * 81);
                due("one BAND is less, d 4", x.greys(0, 4), 729);
                x.measure(27, least == 0 ? 100 : 99, least == 1 ? 100 : 99, least == 2 ? 100 : 99);
                due("one BAND is more, d 0: of c 0 and 8", x.greys(0, 0), 2 * 81);
                due("one BAND is more, d 3: not of c 4", x.greys(0, 3), 8 * 81);
                due("one BAND is more, d 4", x.greys(0, 4), 729);
            }
        });
        edge("34, greys: of the darkest and of the lightest, equally dark or light: the least CODE", () -> {
            InkFolds x = white();
            due("all alike", x.greys(3, 0), 729);
            row(x, 3, 1200, 3, 1200);
            x = stairs(0);
            due("grey ones", x.greys(8, 0), 729);
            row(x, 8008, 0, 8, 1200);
        });
        edge("34, greys: the sum of its three numbers", () -> {
            for (int band = 0; band < 3; band++) {
                InkFolds x = white();
                x.measure(27, band == 0 ? 90 : 100, band == 1 ? 90 : 100, band == 2 ? 90 : 100);
                x.measure(54, band == 0 ? 80 : 100, band == 1 ? 80 : 100, band == 2 ? 80 : 100);
                due("all", x.greys(0, 80), 729);
                row(x, 8000, 1120, 0, 1200);
                due("c 0 .. 3", x.greys(0, 39), 4 * 81);
                row(x, 3000, 1170, 0, 1200);
            }
        });
        edge("34, greys: OPEN ones", () -> {
            InkFolds x = white();
            x.sets(3, 4);
            due("k 4", x.greys(4, 0), 729);
            due("k 5", x.greys(5, 0), 0);
            row(x);
            x.sets(0, 8);
            due("TOTAL 8", x.greys(4, 0), 35);
            x.sets(3, 8);
            due("a single one", x.greys(8, 0), 1);
            row(x, 8, 1200, 8, 1200);
        });
        edge("34, greys: NONE: k is not 0 .. 8", () -> {
            yes("0", full().greys(0, 1200) > 0);
            due("8, above TOP", full().greys(8, 1200), 0);
            for (int k : new int[] {-1, 9, LEAST, MOST}) {
                refused("k " + k, -1, x -> x.greys(k, 5));
            }
        });
        edge("35, replaces: of OPEN ones of which DISTANCE to COLOUR of a CODE is d or less", () -> {
            InkFolds x = stairs(0);
            for (int how = 0; how <= 2; how++) {
                due("d 0", x.replaces(how, 3000, 0), how == 0 ? 3008 : 3000);
                row(x, 729);
                due("d 7499", x.replaces(how, 3000, 7499), how == 0 ? 3008 : 3000);
                row(x, 729);
                due("d 7500", x.replaces(how, 3000, 7500), how == 0 ? 2008 : 2000);
                row(x, 3 * 729);
                due("the most", x.replaces(how, 3000, MOST), how == 0 ? 8 : 0);
                row(x, 6561);
            }
        });
        edge("35, replaces: most of k and least TOTAL, then the least CODE", () -> {
            InkFolds x = stairs(0);
            x.measure(1, 50, 50, 50);
            x.measure(2, 0, 0, 0);
            due("0: the most of k", x.replaces(0, 2000, 0), 2);
            due("1: the least TOTAL, the most of k", x.replaces(1, 2000, 0), 2);
            due("2: the least of k", x.replaces(2, 2000, 0), 2000);
            due("2: the least of k, the least TOTAL", x.replaces(2, 2, 7500), 1000);
            x = stairs(0);
            x.measure(9, 50, 50, 50);
            x.measure(18, 0, 0, 0);
            due("the least CODE", x.replaces(1, 2000, 0), 200);
            due("the least CODE", x.replaces(2, 2000, 0), 200);
            due("the least CODE", x.replaces(0, 2000, 0), 208);
        });
        edge("35, replaces: one of k, or of TOTAL, comes ahead of many of the other", () -> {
            InkFolds x = white();
            x.measure(2, 99, 100, 100);
            x.measure(80, 100, 100, 100);
            due("0: one more of k, sixteen more of TOTAL", x.replaces(0, 0, 9), 5558);
            due("0: two more of k, nineteen more of TOTAL", x.replaces(0, 0, 4), 6668);
            x = stairs(0);
            x.measure(1, 50, 50, 50);
            x.measure(2, 13, 13, 13);
            due("1: one less of TOTAL, eight less of k", x.replaces(1, 7000, 12), 7000);
            due("0: the eight of k", x.replaces(0, 7000, 12), 8);
            x = white();
            x.measure(1, 99, 100, 100);
            x.measure(78, 99, 100, 100);
            due("2: one less of k, fourteen more of TOTAL", x.replaces(2, 1, 0), 5550);
            due("1: fourteen less of TOTAL", x.replaces(1, 1, 0), 1);
        });
        edge("35, replaces: -2: there is none", () -> {
            for (int how = 0; how <= 2; how++) {
                int h = how;
                refused("d below 0", -2, x -> x.replaces(h, 0, -1));
                refused("the least d", -2, x -> x.replaces(h, 8888, LEAST));
                refused("none is OPEN", -2, x -> x.replaces(h, 8, 0), () -> {
                    InkFolds x = stairs(3);
                    x.sets(3, 7);
                    x.colour(5);
                    return x;
                });
            }
        });
        edge("35, replaces: NONE: another how, no such CODE", () -> {
            for (int how : new int[] {-1, 3, LEAST, MOST}) {
                refused("how " + how, -1, x -> x.replaces(how, 0, 0));
                refused("how " + how + ", d below 0", -1, x -> x.replaces(how, 0, -1));
            }
            noSuchCodes("replaces", (x, code) -> x.replaces(2, code, 100));
            noSuchCodes("replaces, d below 0", (x, code) -> x.replaces(0, code, -1));
        });
    }

    private static void doubtAndAsks() {
        edge("36, doubt: -2: none is MEASURED", () -> {
            refused("none", -2, x -> x.doubt(), FRESH);
            refused("none any more", -2, x -> x.doubt(), () -> {
                InkFolds x = half();
                x.forgets(40);
                x.measure(27, 1, 2, 3);
                return x;
            });
            yes("one", half().doubt() == 40);
        });
        edge("36, doubt: of equal ones the least; of 0, too", () -> {
            InkFolds x = white();
            x.measure(80, 100, 100, 100);
            due("alone, as reckoned", x.doubt(), 80);
            row(x, 0);
            x.measure(4, 100, 100, 100);
            due("both as reckoned", x.doubt(), 4);
            row(x, 0);
            x.measure(80, 100, 100, 99);
            due("one more", x.doubt(), 80);
            row(x, 1);
            x.measure(4, 99, 100, 100);
            due("equal", x.doubt(), 4);
            row(x, 1);
            x.sets(6, 2);
            due("by WEIGHT", x.doubt(), 80);
            row(x, 2);
            x.measure(80, 0, 0, 0);
            x.sets(4, 9);
            x.sets(5, 9);
            x.sets(6, 9);
            due("the greatest that there can be", x.doubt(), 80);
            row(x, 270000);
        });
        edge("36, doubt: WEIGHT times the difference in each BAND", () -> {
            for (int band = 0; band < 3; band++) {
                InkFolds x = white();
                x.sets(4 + band, 7);
                for (int patch : PLAIN) {
                    x.measure(patch, 90, 80, 70);
                }
                x.measure(44, 90, 80, 70);
                due("as reckoned", x.doubt(), 44);
                row(x, 0);
                x.measure(44, band == 0 ? 87 : 90, band == 1 ? 77 : 80, band == 2 ? 67 : 70);
                due("each BAND by itself", x.doubt(), 44);
                row(x, 7 * 9);
            }
        });
        edge("37, asks: which counts (more than 0 times) in COLOURS of most OPEN ones; of equal ones the least; of 0, too", () -> {
            InkFolds x = new InkFolds();
            x.sets(0, 8);
            x.sets(3, 0);
            due("1110 in the midst: of each 1 .. 4", x.asks(), 39);
            row(x, 44);
            x.measure(39, 1, 1, 1);
            due("0110, 1010 and 1100 alike", x.asks(), 12);
            row(x, 31);
            x.measure(12, 1, 1, 1);
            due("the next of them", x.asks(), 30);
            row(x, 31);
            x.measure(30, 1, 1, 1);
            due("the last of them", x.asks(), 36);
            row(x, 31);
            x = new InkFolds();
            for (int patch = 0; patch < 80; patch++) {
                x.measure(patch, 1, 1, 1);
            }
            due("2222 alone is left", x.asks(), 80);
            row(x, 256);
            x.sets(0, 21);
            due("5555 and one more", x.asks(), 80);
            row(x, 5);
            x.sets(0, 20);
            due("5555 alone", x.asks(), 80);
            row(x, 1);
            x.sets(0, 19);
            due("2222 alone is left", x.asks(), 80);
            row(x, 0);
            x.forgets(4);
            x.forgets(5);
            x.sets(0, 8);
            x.sets(3, 0);
            due("of 0 the least", x.asks(), 4);
            row(x, 0);
        });
        edge("37, asks: -2: all are MEASURED", () -> {
            Maker all = () -> {
                InkFolds x = half();
                for (int patch = 0; patch < 81; patch++) {
                    x.measure(patch, patch, 50, 100 - patch);
                }
                return x;
            };
            refused("all", -2, x -> x.asks(), all);
            InkFolds x = all.make();
            due("one is not", x.forgets(77) + x.asks(), 71 + 77);
        });
    }

    private static void otherAndCarry() {
        edge("38, other: the greatest DISTANCE of the two, its least CODE (nothing without)", () -> {
            InkFolds x = white();
            x.keep(0);
            due("the same", x.other(0), 0);
            row(x);
            x.measure(80, 100, 99, 100);
            due("those with a share of 2222", x.other(0), 256);
            row(x, 16, 8888);
            x.measure(1, 100, 0, 100);
            x.forgets(80);
            due("those with a share of LEVEL 1 of k", x.other(0), 7 * 729);
            row(x, 160000, 4);
            x.sets(3, 0);
            due("OPEN ones", x.other(0), 0);
            row(x);
            x = white();
            x.sets(0, 11);
            x.sets(3, 0);
            x.keep(0);
            x.measure(75, 99, 100, 100);
            due("2210 counts in one alone", x.other(0), 1);
            row(x, 1, 5510);
            x = white();
            x.keep(0);
            x.measure(0, 99, 99, 99);
            due("those with a share of the paper", x.other(0), 256);
            row(x, 3 * 16, 0);
        });
        edge("38, other: -2: nothing is kept under i; NONE: another i", () -> {
            refused("0", -2, x -> x.other(0), FRESH, HALF);
            refused("1", -2, x -> x.other(1), FRESH);
            yes("1 is kept", half().other(1) >= 0);
            yes("0 is kept", full().other(0) >= 0);
            for (int i : new int[] {-1, 2, LEAST, MOST}) {
                refused("other(" + i + ")", -1, x -> x.other(i));
            }
        });
        edge("39, carry: -2: nothing is kept under i; NONE: another i, no such CODE", () -> {
            refused("0", -2, x -> x.carry(0, 8888), FRESH, HALF);
            refused("1", -2, x -> x.carry(1, 0), FRESH);
            yes("1 is kept", half().carry(1, 8888) >= 0);
            yes("0 is kept", full().carry(0, 0) >= 0);
            for (int i : new int[] {-1, 2, LEAST, MOST}) {
                refused("carry(" + i + ", 0)", -1, x -> x.carry(i, 0));
            }
            noSuchCodes("carry", (x, code) -> x.carry(0, code));
            noSuchCodes("carry", (x, code) -> x.carry(1, code));
        });
        edge("39, carry: each BAND by itself, as kept under i", () -> {
            InkFolds x = new InkFolds();
            x.keep(1);
            for (int code : new int[] {0, 1, 10, 100, 1000, 40, 400, 4000}) {
                due("LIGHT is the same", x.carry(1, code), code);
                row(x, 0);
            }
            x.measure(27, 90, 50, 90);
            x.measure(54, 80, 10, 80);
            x.measure(9, 50, 90, 90);
            x.measure(18, 10, 80, 80);
            for (int a = 0; a <= 8; a++) {
                due("c and m are changed about", x.carry(1, 1000 * a), 100 * a);
                due("c and m are changed about", x.carry(1, 100 * a), 1000 * a);
            }
        });
        edge("39, carry: a CODE that is not OPEN, and MATCH among OPEN ones", () -> {
            InkFolds x = stairs(0);
            x.keep(1);
            x.sets(0, 8);
            x.sets(3, 0);
            due("8888", x.carry(1, 8888), 8000);
            row(x, 0);
            due("0", x.carry(1, 0), 0);
            row(x, 0);
        });
    }

    /** What drifts(seed, n) has to answer, reckoned with great numbers and done by measure() on another object. */
    private static void drift(Maker maker, int seed, int n) {
        InkFolds x = maker.make();
        InkFolds y = maker.make();
        BigInteger all = BigInteger.ONE.shiftLeft(32);
        BigInteger r = BigInteger.valueOf(seed).mod(all);
        for (int day = 0; day < n; day++) {
            int[] of = {4, 2, 3, 21};
            int[] drawn = new int[4];
            for (int i = 0; i < 4; i++) {
                r = r.multiply(BigInteger.valueOf(1103515245)).add(BigInteger.valueOf(12345)).mod(all);
                drawn[i] = r.divide(BigInteger.valueOf(65536)).mod(BigInteger.valueOf(of[i])).intValue();
            }
            int patch = new int[] {27, 9, 3, 1}[drawn[0]] * (drawn[1] + 1);
            int[] light = {y.light(patch, 0), y.light(patch, 1), y.light(patch, 2)};
            light[drawn[2]] = Math.max(0, Math.min(100, light[drawn[2]] + drawn[3] - 10));
            y.measure(patch, light[0], light[1], light[2]);
        }
        int rises = y.rises(0) + y.rises(1) + y.rises(2) + y.rises(3);
        int code = y.match(200, 200, 200);
        long distance = y.row(0);
        due("drifts(" + seed + ", " + n + ")", x.drifts(seed, n), rises);
        row(x, code, distance);
    }

    private static void drifts() {
        edge("40, drifts: n days (1 .. 40); NONE: another n", () -> {
            for (int n = 1; n <= 40; n++) {
                drift(FRESH, 7, n);
            }
            for (int n : new int[] {0, 41, -1, LEAST, MOST}) {
                refused("days " + n, -1, x -> x.drifts(3, n));
            }
        });
        edge("40, drifts: R as ints, without sign", () -> {
            for (int seed : new int[] {0, 1, -1, 12345, -12345, 65536, LEAST, MOST, LEAST + 1, MOST - 1, 1 << 30}) {
                for (Maker maker : ALL) {
                    drift(maker, seed, 1);
                    drift(maker, seed, 40);
                }
            }
        });
        edge("40, drifts: LIGHT put to 0 .. 100", () -> {
            for (int seed = 0; seed < 20; seed++) {
                drift(Edges::white, seed, 40);
                drift(() -> {
                    InkFolds x = new InkFolds();
                    x.sheet(2, 27, 0, 0);
                    x.measure(0, 100, 100, 100);
                    return x;
                }, seed, 40);
            }
        });
    }

    // ---- promises 41 to 44

    private static void kept() {
        edge("41, keep: a number 0 .. 1: true; refused: others", () -> {
            InkFolds x = new InkFolds();
            yes("0", x.keep(0));
            yes("1", x.keep(1));
            yes("1 again", x.keep(1));
            for (int i : new int[] {-1, 2, LEAST, MOST}) {
                refused("keep(" + i + ")", 0, y -> y.keep(i) ? 1 : 0);
            }
        });
        edge("41, keep: what undo() brings back is kept, and nothing else changes", () -> {
            for (Maker maker : ALL) {
                InkFolds x = maker.make();
                x.keep(0);
                x.keep(1);
                due("what can be undone", x.count(9), maker.make().count(9));
                due("signs", x.count(11), maker.make().count(11));
                due("numbers of the ROW", x.count(10), maker.make().count(10));
            }
        });
        edge("42, again: refused: nothing kept", () -> {
            refused("0", 0, x -> x.again(0) ? 1 : 0, FRESH, HALF);
            refused("1", 0, x -> x.again(1) ? 1 : 0, FRESH);
            yes("1 is kept", half().again(1));
            yes("0 is kept", full().again(0));
            for (int i : new int[] {-1, 2, LEAST, MOST}) {
                refused("again(" + i + ")", 0, x -> x.again(i) ? 1 : 0);
            }
        });
        edge("42, again: it is as it was kept under a number", () -> {
            InkFolds x = full();
            List<Long> was = new ArrayList<>();
            tellCounts(x, was);
            x.keep(0);
            say(x, "0000010203").patches();
            say(x, "").curve(0);
            say(x, "").link();
            say(x, "").picture();
            x.measure(80, 1, 1, 1);
            x.forgets(40);
            say(x, "l08g4t0w09w19w29").day();
            x.sets(2, 3);
            yes("again", x.again(0));
            List<Long> is = new ArrayList<>();
            tellCounts(x, is);
            yes("as it was", is.equals(was));
            x.sets(2, 99999);
            yes("again", x.again(0));
            is.clear();
            tellCounts(x, is);
            yes("as it was, again", is.equals(was));
        });
        edge("43, count: what 0 .. 14; NONE for another what", () -> {
            for (int what = 0; what <= 14; what++) {
                yes("count(" + what + ")", full().count(what) >= 0);
            }
            for (int what : new int[] {-1, 15, 16, LEAST, MOST}) {
                refused("count(" + what + ")", -1, x -> x.count(what));
            }
        });
        edge("43, count: the least and the most", () -> {
            InkFolds x = say(new InkFolds(), times(80, "a"));
            due("signs", x.count(11), 80);
            x.ramp(0, 8888);
            due("numbers of the ROW", x.count(10), 9);
            x.way(0, 0, 0);
            due("numbers of the ROW", x.count(10), 0);
            x.end(0);
            due("signs", x.count(11), 0);
            for (int patch = 0; patch < 81; patch++) {
                x.measure(patch, 0, 0, 0);
            }
            due("MEASURED", x.count(0), 72);
            due("what can be undone", x.count(9), 10);
        });
        edge("44, row: NoSuchElementException: none such", () -> {
            for (int i : new int[] {-1, 0, 1, LEAST, MOST}) {
                refused("row(" + i + ") of none", 1, x -> thrown(() -> x.row(i)), FRESH);
            }
            for (int i : new int[] {-1, 3, 4, LEAST, MOST}) {
                refused("row(" + i + ") of three", 1, x -> thrown(() -> x.row(i)), FULL);
            }
            for (int i : new int[] {-1, 4, 5, LEAST, MOST}) {
                refused("row(" + i + ") of four", 1, x -> thrown(() -> x.row(i)), HALF);
            }
            InkFolds x = new InkFolds();
            x.ramp(8, 8);
            due("the last of nine", thrown(() -> x.row(8)), 0);
            due("the tenth", thrown(() -> x.row(9)), 1);
            x.odds(0, 0, 0, 0);
            due("the last of two", thrown(() -> x.row(1)), 0);
            due("the third", thrown(() -> x.row(2)), 1);
            x.rises(0);
            due("the first of none", thrown(() -> x.row(0)), 1);
        });
    }

    // ---- whatever is asked

    private static long answerOf(Method call, InkFolds x, Object[] args) throws ReflectiveOperationException {
        Object answer = call.invoke(x, args);
        return answer instanceof Boolean ? ((Boolean) answer ? 1 : 0) : ((Number) answer).longValue();
    }

    private static void askWildly(Method call, int[] values) throws ReflectiveOperationException {
        int n = call.getParameterCount();
        int all = 1;
        for (int i = 0; i < n; i++) {
            all *= values.length;
        }
        InkFolds x = null;
        for (int k = 0; k < all; k++) {
            if (k % 300 == 0) {
                x = ALL[k / 300 % 3].make();
            }
            Object[] args = new Object[n];
            for (int i = 0, rest = k; i < n; i++, rest /= values.length) {
                args[i] = values[rest % values.length];
            }
            try {
                answerOf(call, x, args);
            } catch (InvocationTargetException e) {
                boolean may = call.getExceptionTypes().length > 0 && e.getCause() instanceof NoSuchElementException;
                if (!may) {
                    fault(call.getName() + " of " + Arrays.toString(args) + " threw " + e.getCause());
                }
            }
        }
    }

    private static void wild() {
        edge("no call throws but light, bent and row, and these a NoSuchElementException", () -> {
            try {
                for (Method call : InkFolds.class.getDeclaredMethods()) {
                    if (Modifier.isPublic(call.getModifiers())) {
                        boolean many = call.getParameterCount() > 3;
                        askWildly(call, many ? new int[] {LEAST, -1, 0, 3, 100, MOST}
                            : new int[] {LEAST, -9, -1, 0, 1, 3, 8, 80, 81, 400, 401, 8888, MOST});
                    }
                }
            } catch (ReflectiveOperationException e) {
                fault(e.toString());
            }
        });
        edge("no text makes a call that reads it throw", () -> {
            Call[] readers = {x -> x.patches(), x -> x.curve(0), x -> x.link(), x -> x.picture(), x -> x.day()};
            String signs = "lvguaswhxnoijp()cmykefdbtzq/0123456789:" + (char) 0 + (char) 255;
            long r = 1;
            InkFolds x = null;
            for (int k = 0; k < 30000; k++) {
                x = k % 15 == 0 ? ALL[k / 15 % 3].make() : x;
                StringBuilder s = new StringBuilder();
                int n = k % 81;
                for (int i = 0; i < n; i++) {
                    r = r * 6364136223846793005L + 1442695040888963407L;
                    s.append(signs.charAt((int) (r >>> 33) % signs.length()));
                }
                try {
                    long answer = readers[k % 5].of(say(x, s.toString()));
                    yes("the place of a sign " + answer, answer >= -82 || answer == -200 || answer == -201);
                } catch (RuntimeException e) {
                    fault("the text " + s + " threw " + e);
                }
            }
        });
    }

    public static void main(String[] args) {
        wild();
        termsOfPatches();
        termsOfColours();
        termsOfMatch();
        termsOfSteps();
        termsOfTheRow();
        sign();
        end();
        patches();
        curve();
        link();
        picture();
        light();
        bent();
        sheet();
        measure();
        forgets();
        sets();
        paints();
        day();
        undo();
        coloursAndMatches();
        way();
        risesAndReach();
        spreadAndOdds();
        throughTheLink();
        presses();
        cells();
        greysAndReplaces();
        doubtAndAsks();
        otherAndCarry();
        drifts();
        kept();
        System.out.println(wrong == 0 ? edges + " edges are as due" : wrong + " answers are not as due");
        if (wrong != 0) {
            System.exit(1);
        }
    }
}
