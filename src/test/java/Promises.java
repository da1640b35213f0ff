import java.util.NoSuchElementException;

/** For each promise of the document: ordinary inputs, the edges it names, wrong inputs; what is due is reckoned by hand. */
public final class Promises {
    private static int wrong = 0;

    private static void due(String what, long got, long want) {
        if (got != want) {
            wrong++;
            System.out.println(what + " answered " + got + ", due is " + want);
        }
    }

    private static void yes(String what, boolean got) {
        due(what, got ? 1 : 0, 1);
    }

    private static void no(String what, boolean got) {
        due(what, got ? 1 : 0, 0);
    }

    private static void row(String what, InkFolds x, long... want) {
        due(what + ": numbers of the ROW", x.count(10), want.length);
        for (int i = 0; i < want.length && i < x.count(10); i++) {
            due(what + ": ROW " + i, x.row(i), want[i]);
        }
    }

    /** Puts THE TEXT to these signs. */
    private static InkFolds say(InkFolds x, String s) {
        x.end(0);
        for (int p = 0; p < s.length(); p += 4) {
            int four = 0;
            for (int i = p; i < p + 4; i++) {
                four = four << 8 | (i < s.length() ? s.charAt(i) : 0);
            }
            x.sign(four);
        }
        x.end(s.length());
        return x;
    }

    private static InkFolds withLink(String... links) {
        InkFolds x = new InkFolds();
        for (String s : links) {
            say(x, s).link();
        }
        return x;
    }

    private static int linkOf(String s) {
        return say(new InkFolds(), s).link();
    }

    /** All LIGHT is 100: all COLOURS are 400, 400, 400. */
    private static InkFolds white() {
        InkFolds x = new InkFolds();
        x.sheet(3, 0, 0, 0);
        return x;
    }

    /** Ink c alone darkens, by 50 for each AMOUNT, in all BANDS; no black is wished. */
    private static InkFolds stairs() {
        InkFolds x = white();
        x.measure(27, 50, 50, 50);
        x.measure(54, 0, 0, 0);
        x.sets(1, 0);
        return x;
    }

    private static void p1New() {
        InkFolds x = new InkFolds();
        int[] counts = {0, 32, 2, 0, 8, 0, 0, 0, 0, 0, 0, 0, 1, 1, 1};
        for (int what = 0; what < counts.length; what++) {
            due("1 count(" + what + ")", x.count(what), counts[what]);
        }
        int[] plain = {0, 27, 54, 9, 18, 3, 6, 1, 2};
        int[][] lights = {{100, 100, 100}, {50, 90, 90}, {10, 80, 80}, {90, 50, 90}, {80, 10, 80}, {90, 90, 50}, {80, 80, 10},
            {50, 50, 50}, {10, 10, 10}};
        for (int i = 0; i < plain.length; i++) {
            for (int band = 0; band < 3; band++) {
                due("1 light(" + plain[i] + ", " + band + ")", x.light(plain[i], band), lights[i][band]);
            }
        }
        for (int ink = 0; ink < 4; ink++) {
            for (int amount = 0; amount < 9; amount++) {
                due("1 bent", x.bent(ink, amount), amount);
            }
        }
        for (int letter = 0; letter < 8; letter++) {
            due("1 PALETTE is 0", x.paints(letter, 1, 2, 3), 14);
        }
        no("1 nothing is kept", x.again(0) || x.again(1));
        due("1 no PICTURE", x.press(0), -2);
        due("1 no LINK", x.through(1234), 1234);
        due("1 NONE", InkFolds.NONE, -1);
    }

    private static void p2Sign() {
        InkFolds x = new InkFolds();
        due("2 sign", x.sign(0x30313233), 4);
        due("2 sign", x.sign(0x34353637), 8);
        due("2 sign", x.sign(0x38ffffff), 12);
        x.end(9);
        due("2 the highest byte is first", x.curve(0), 0);
        for (int i = 1; i <= 20; i++) {
            due("2 sign " + i, x.sign(-1), 4 * i);
        }
        due("2 the 81st sign", x.sign(0), -1);
        due("2 signs", x.count(11), 80);
        x.end(76);
        due("2 room again", x.sign(0), 80);
        x.end(77);
        due("2 77 and 4", x.sign(0), -1);
        due("2 signs", x.count(11), 77);
        row("2 the ROW", x);
    }

    private static void p3End() {
        InkFolds x = say(new InkFolds(), "abcdefgh");
        no("3 end(-1)", x.end(-1));
        no("3 end(9)", x.end(9));
        no("3 least", x.end(Integer.MIN_VALUE));
        due("3 nothing changed", x.count(11), 8);
        yes("3 end(8)", x.end(8));
        yes("3 end(3)", x.end(3));
        due("3 three", x.count(11), 3);
        no("3 end(4)", x.end(4));
        due("3 the first ones", x.picture(), 3);
        yes("3 end(0)", x.end(0));
    }

    private static void p4Patches() {
        InkFolds x = new InkFolds();
        due("4 none", x.patches(), 0);
        due("4 none is done", x.count(9), 1);
        due("4 three", say(x, "111150403000009998971111204060").patches(), 3);
        due("4 the last telling counts", x.light(40, 0), 20);
        due("4", x.light(40, 1), 40);
        due("4", x.light(40, 2), 60);
        due("4 a PLAIN one", x.light(0, 0), 99);
        due("4 a PLAIN one is not MEASURED", x.count(0), 1);
        due("4 THE TEXT is read", x.count(11), 0);
        due("4 LEVEL 3", say(x, "1131504030").patches(), -3);
        due("4 no digit", say(x, "111150403a").patches(), -10);
        due("4 too early", say(x, "1111504030111").patches(), -14);
        due("4 THE TEXT is emptied", x.count(11), 0);
        due("4 a sign too much", say(x, "1111504030x").patches(), -11);
        due("4 nothing is done", x.light(40, 0), 20);
        due("4 what can be undone", x.count(9), 2);
        String eight = "0000010203";
        for (int i = 1; i < 8; i++) {
            eight += "222" + i % 3 + "010203";
        }
        due("4 eight", say(x, eight).patches(), 8);
        due("4 2220, 2221, 2222", x.count(0), 4);
        row("4 the ROW", x);
    }

    private static void p5Curve() {
        InkFolds x = new InkFolds();
        due("5 curve", say(x, "000011128").curve(2), 0 + 1 + 2 + 3 + 3 + 4 + 5 + 5 + 0);
        due("5 it bends", x.bent(2, 7), 2);
        due("5 others don't", x.bent(1, 7), 7);
        due("5 all 8", say(x, "888888888").curve(0), 36);
        due("5 falling", say(x, "001101111").curve(0), -5);
        due("5 9", say(x, "000000009").curve(0), -9);
        due("5 below 0", say(x, "/00000000").curve(0), -1);
        due("5 early", say(x, "0000").curve(0), -5);
        due("5 ten", say(x, "0123456788").curve(0), -10);
        due("5 THE TEXT is asked first", say(x, "01x").curve(4), -3);
        due("5 no ink", say(x, "012345678").curve(4), -1);
        due("5 no ink", say(x, "").curve(-1), -1);
        due("5 THE TEXT is emptied", x.count(11), 0);
        due("5 what was refused changed nothing", x.bent(0, 0), 8);
        due("5 done ones", x.count(9), 2);
        due("5 empty", say(x, "").curve(0), 0);
        due("5 as at first", x.bent(0, 0), 0);
        due("5 done ones", x.count(9), 3);
    }

    private static void p6LinkTold() {
        String[] texts = {"", "l", "v", "g0", "u8", "ac8", "sk0", "wm3", "hy", "xcc", "lvg4", "n3(g4ac1)", "n0(lv)", "n9()",
            "oc(g4)", "om(oy(l))", "ic8(lv)", "jcm(lv)", "p", "n1(n1(n1()))", "n9(n9(llllll))llll", "n0(p)",
            "llllllllllllllllllllllllllllllllllllllll"};
        int[] longs = {0, 1, 1, 1, 1, 1, 1, 1, 1, 1, 3, 7, 1, 1, 9, 73, 3, 3, 0, 3, 500, 1, 40};
        for (int i = 0; i < texts.length; i++) {
            due("6 " + texts[i], linkOf(texts[i]), longs[i]);
        }
        String[] bad = {"q", "(", ")", "g5", "g", "u9", "a", "aq", "ac", "ac9", "h1", "x", "xc", "xc1", "n(", "na", "n1", "n1l",
            "n1(", "n1(l", "n1(l))", "o1", "oc", "ocl", "ic", "icc", "ic9", "ic1l", "jc1", "jcm", "n1(n1(n1(n1(", "l1", "lG4",
            "n1(q)", "n1(oc(jcm()"};
        int[] at = {0, 0, 0, 1, 1, 1, 1, 1, 2, 2, 1, 1, 2, 2, 1, 1, 2, 2, 3, 4, 5, 1, 2, 2, 2, 2, 2, 3, 2, 3, 11, 1, 1, 3, 11};
        for (int i = 0; i < bad.length; i++) {
            due("6 " + bad[i], linkOf(bad[i]), -1 - at[i]);
        }
        String forty = texts[texts.length - 1];
        due("6 41 signs", linkOf(forty + "l"), -41);
        due("6 41 signs, the last one wrong", linkOf(forty + "?"), -41);
        due("6 the 40 end too early", linkOf(forty.substring(1) + "g"), -41);
        due("6 the 40 could go on", linkOf(forty.substring(1) + "g4"), -41);
        due("6 wrong ahead of 40", linkOf("llllg" + forty), -6);
        due("6 wrong as the last of 40", linkOf(forty.substring(1) + "?"), -40);
        due("6 LONG 501", linkOf("n9(n9(llllll))lllll"), -200);
        InkFolds x = withLink("l");
        for (int age = 2; age <= 6; age++) {
            due("6 AGE " + age, say(x, "p").link(), 1);
            due("6 count(6)", x.count(6), age);
        }
        due("6 AGE 7", say(x, "p").link(), -201);
        due("6 LONG is asked first", say(x, "n9(n9(n9(p)))").link(), -200);
        due("6 p is AGE even where it is not done", say(x, "n0(p)").link(), -201);
        due("6 THE LINK stays", x.count(6), 6);
        due("6 and its LONG", x.count(5), 1);
        due("6 only what was done", x.count(9), 6);
        due("6 THE TEXT is emptied", x.count(11), 0);
        due("6 another one", say(x, "ll").link(), 2);
        due("6 is of AGE 1", x.count(6), 1);
        due("6 p of none", withLink("p").count(6), 1);
        due("6 twice the former", say(x, "pp").link(), 4);
        due("6 none", say(x, "").link(), 0);
        due("6 AGE of none", x.count(6), 0);
        row("6 the ROW", x);
    }

    private static void through(String s, int from, int to) {
        due("6 " + s + " of " + from, withLink(s).through(from), to);
    }

    private static void p6LinkDone() {
        through("g4", 3330, 3);
        through("g2", 3330, 2221);
        through("g3", 5538, 5538);
        through("g4", 8886, 6668);
        through("g0", 8880, 8880);
        through("u3", 5, 3332);
        through("u8", 7778, 8887);
        through("u8", 2, 2220);
        through("u0", 8, 8);
        through("am5", 400, 800);
        through("ak3", 1, 4);
        through("sc5", 4321, 321);
        through("sc3", 4000, 1000);
        through("wy2", 8888, 8828);
        through("wy8", 88, 88);
        through("hm", 8788, 8388);
        through("xck", 1234, 4231);
        through("xcc", 1234, 1234);
        through("l", 8888, 8888);
        through("n3(ac1)am1", 0, 3100);
        through("n0(ac1)", 0, 0);
        through("oc(ac1)", 2000, 4000);
        through("oc(sc1am1)", 3000, 300);
        through("ic3(am1)", 3000, 3000);
        through("ic3(am1)", 4000, 4100);
        through("jcm(ay1)", 2200, 2200);
        through("jcm(ay1)", 3200, 3210);
        through("n2(om(ac1jcy(ay2)))", 200, 4240);
        through("lllllllllllllllllllllllllllllllllllllsk1", 8888, 8887);
        InkFolds x = withLink("v");
        say(x, "000000012").curve(0);
        due("6 v: CURVES as they are when it is done", x.through(7777), 1777);
        x = new InkFolds();
        x.sets(0, 8);
        say(x, "l").link();
        x.sets(0, 32);
        due("6 l: LIMIT as it was told", x.through(8888), 8);
        say(x, "ac5p").link();
        due("6 p: l as it was told then", x.through(6000), 8000);
        due("6 p: l as it was told then", x.through(6660), 2220);
        due("6 p: the former one", withLink("ac1", "n3(p)", "pam1").through(0), 3100);
        due("6 p of a none", withLink("p").through(1234), 1234);
        due("6 many p of none", withLink("n9(n9(n9(pppppppppppppppppppppppppppp)))").through(1234), 1234);
    }

    private static void p7Picture() {
        InkFolds x = new InkFolds();
        due("7 picture", say(x, "abc/def").picture(), 6);
        due("7 wide", x.count(7), 3);
        due("7 high", x.count(8), 2);
        due("7 a ninth letter", say(x, "aaaaaaaaa").picture(), -9);
        due("7 a ninth row", say(x, "a/a/a/a/a/a/a/a/a").picture(), -16);
        due("7 longer", say(x, "ab/abc").picture(), -6);
        due("7 shorter", say(x, "ab/a/ab").picture(), -5);
        due("7 too early", say(x, "ab/a").picture(), -5);
        due("7 too early behind /", say(x, "ab/").picture(), -4);
        due("7 no letter", say(x, "/a").picture(), -1);
        due("7 no letter", say(x, "a//a").picture(), -3);
        due("7 another sign", say(x, "abi").picture(), -3);
        due("7 a great letter", say(x, "A").picture(), -1);
        due("7 it stays", x.count(7), 3);
        due("7 THE TEXT is emptied", x.count(11), 0);
        due("7 64 CELLS", say(x, "abcdefgh/abcdefgh/abcdefgh/abcdefgh/abcdefgh/abcdefgh/abcdefgh/abcdefgh").picture(), 64);
        due("7 high", x.count(8), 8);
        due("7 none", say(x, "").picture(), 0);
        due("7 wide", x.count(7), 0);
        due("7 high", x.count(8), 0);
        due("7 done ones", x.count(9), 3);
        due("7 one", say(x, "h").picture(), 1);
    }

    private static int thrown(Runnable call) {
        try {
            call.run();
        } catch (NoSuchElementException e) {
            return 1;
        }
        return 0;
    }

    private static void throwsOnLight(InkFolds x, int patch, int band) {
        due("8 light(" + patch + ", " + band + ") throws", thrown(() -> x.light(patch, band)), 1);
    }

    private static void p8Light() {
        InkFolds x = new InkFolds();
        due("8 1111", x.light(40, 0), 20);
        due("8 1100, band 2", x.light(36, 2), 81);
        due("8 cut at each ink: 2220", x.light(78, 0), 6);
        due("8 2222", x.light(80, 0), 0);
        throwsOnLight(x, 81, 0);
        throwsOnLight(x, -1, 0);
        throwsOnLight(x, 0, 3);
        throwsOnLight(x, 0, -1);
        throwsOnLight(x, Integer.MAX_VALUE, Integer.MIN_VALUE);
        x.measure(0, 50, 0, 100);
        due("8 by the paper's: 50 * 50 / 50 * 90 / 50", x.light(36, 0), 90);
        due("8 100 at most: 50 * 90 / 50 * 90 / 50", x.light(12, 0), 100);
        due("8 by 0: 0", x.light(36, 1), 0);
        due("8 a PLAIN one is as told", x.light(27, 1), 90);
    }

    private static void p9Bent() {
        InkFolds x = new InkFolds();
        due("9 bent", x.bent(3, 8), 8);
        due("9 no ink", thrown(() -> x.bent(4, 0)), 1);
        due("9 no ink", thrown(() -> x.bent(-1, 0)), 1);
        due("9 no AMOUNT", thrown(() -> x.bent(0, 9)), 1);
        due("9 no AMOUNT", thrown(() -> x.bent(0, -1)), 1);
    }

    private static void p10Sheet() {
        InkFolds x = new InkFolds();
        due("10 0, 1, 2 .. 26", x.sheet(2, 27, 0, 1), 351);
        due("10 the first entries are of the paper", x.light(0, 2), 2);
        due("10 then PATCH 1", x.light(1, 0), 3);
        due("10 then 2, then 3", x.light(3, 1), 10);
        due("10 the last is PATCH 54", x.light(54, 2), 26);
        due("10 nothing to undo", x.count(9), 0);
        due("10 two entries", x.sheet(0, 2, 7, 1), 7 + 8 + 2500);
        due("10 those behind have 100", x.light(0, 2), 100);
        due("10 no entries", x.sheet(1, 0, 7, 1), 2700);
        due("10 bytes have a sign", x.sheet(0, 1, 128, 0), 2600);
        due("10 bytes have their lowest bits", x.sheet(0, 1, 256 + 5, 0), 2605);
        due("10 shorts", x.sheet(1, 1, 65536 + 9, 0), 2609);
        due("10 shorts have a sign", x.sheet(1, 1, 32768, 0), 2600);
        due("10 a short above 100", x.sheet(1, 1, 128, 0), 2700);
        due("10 ints", x.sheet(2, 1, 65536, 0), 2700);
        due("10 ints wrap", x.sheet(2, 2, Integer.MAX_VALUE, 1), 2600);
        due("10 n below 0", x.sheet(2, -1, 0, 0), -2);
        due("10 nothing changes", x.light(0, 1), 0);
        due("10 n above 27", x.sheet(0, 28, 0, 0), -1);
        due("10 n above 27 of a missing one", x.sheet(3, 28, 0, 0), -1);
        due("10 another kind", x.sheet(4, -1, 0, 0), -1);
        due("10 another kind", x.sheet(-1, 0, 0, 0), -1);
        due("10 nothing changed", x.light(0, 1), 0);
        due("10 missing", x.sheet(3, -5, 0, 0), -3);
        due("10 all 100", x.light(0, 1), 100);
        due("10 all 100", x.light(80, 1), 100);
        x.measure(40, 1, 2, 3);
        x.sheet(2, 27, 50, 0);
        due("10 MEASURED ones stay", x.light(40, 1), 2);
        x.undo();
        due("10 undo() brings LIGHT back", x.light(0, 0), 100);
    }

    private static void p11Measure() {
        InkFolds x = new InkFolds();
        due("11 measure", x.measure(80, 0, 50, 100), 1);
        due("11 LIGHT", x.light(80, 2), 100);
        due("11 again", x.measure(80, 1, 50, 100), 1);
        due("11 a second", x.measure(40, 1, 50, 100), 2);
        due("11 a PLAIN one", x.measure(27, 1, 50, 100), 2);
        due("11 no PATCH", x.measure(81, 0, 0, 0), -1);
        due("11 no PATCH", x.measure(-1, 0, 0, 0), -1);
        due("11 no LIGHT", x.measure(4, 101, 0, 0), -1);
        due("11 no LIGHT", x.measure(4, 0, -1, 0), -1);
        due("11 no LIGHT", x.measure(4, 0, 0, 101), -1);
        due("11 two are MEASURED", x.count(0), 2);
        due("11 four were done", x.count(9), 4);
    }

    private static void p12Forgets() {
        InkFolds x = new InkFolds();
        x.measure(40, 1, 2, 3);
        x.measure(80, 1, 2, 3);
        due("12 forgets", x.forgets(40), 1);
        due("12 reckoned again", x.light(40, 0), 20);
        due("12 it is not", x.forgets(40), -2);
        due("12 PLAIN", x.forgets(27), -2);
        due("12 none such", x.forgets(81), -1);
        due("12 none such", x.forgets(-1), -1);
        due("12 done ones", x.count(9), 3);
        due("12 the last", x.forgets(80), 0);
    }

    private static void p13Sets() {
        InkFolds x = new InkFolds();
        int[] first = {32, 2, 0, 8, 1, 1, 1};
        int[] least = {8, 0, 0, 0, 1, 1, 1};
        int[] most = {32, 4, 99999, 8, 9, 9, 9};
        int[] counts = {1, 2, 3, 4, 12, 13, 14};
        for (int what = 0; what < 7; what++) {
            due("13 it is so", x.sets(what, first[what]), -2);
            due("13 too little", x.sets(what, least[what] - 1), -1);
            due("13 too much", x.sets(what, most[what] + 1), -1);
            int to = first[what] == least[what] ? most[what] : least[what];
            due("13 what it was", x.sets(what, to), first[what]);
            due("13 it became", x.count(counts[what]), to);
        }
        due("13 no what", x.sets(7, 1), -1);
        due("13 no what", x.sets(-1, 1), -1);
        due("13 done ones", x.count(9), 7);
    }

    private static void p14Paints() {
        InkFolds x = new InkFolds();
        due("14 paints", x.paints(7, 10, 20, 30), 1400);
        x.sets(5, 3);
        due("14 WEIGHTS", x.paints(7, 10, 0, 0), 3 * 400 + 900);
        due("14 the same", x.paints(7, 10, 0, 0), 0);
        due("14 done ones", x.count(9), 4);
        due("14 400", x.paints(0, 400, 400, 400), 800000);
        due("14 no letter", x.paints(8, 0, 0, 0), -1);
        due("14 no letter", x.paints(-1, 0, 0, 0), -1);
        due("14 401", x.paints(0, 401, 0, 0), -1);
        due("14 -1", x.paints(0, 0, 0, -1), -1);
        due("14 done ones", x.count(9), 5);
    }

    private static void p15Day() {
        InkFolds x = new InkFolds();
        due("15 no ACTS", x.day(), 0);
        row("15 no ACTS", x, 0);
        due("15 no ACT was done", x.count(9), 0);
        due("15 all", say(x, "m1111102030l20g4t3w29ea991000m0001112233f1111").day(), 8);
        row("15 all", x, 0);
        due("15 f", x.count(0), 0);
        due("15 m", x.light(1, 2), 33);
        due("15 l", x.count(1), 20);
        due("15 g", x.count(2), 4);
        due("15 t", x.count(4), 3);
        due("15 w", x.count(14), 9);
        due("15 e: four times", x.paints(0, 396, 40, 0), 0);
        x.undo();
        due("15 as one", x.count(9), 1);
        x.undo();
        due("15 all undone", x.count(1), 32);
        due("15 all undone", x.light(1, 2), 50);
        due("15 till one can't be", say(x, "g1g1t0").day(), 1);
        row("15 till one can't be", x, 1);
        due("15 the ones behind are not done", x.count(4), 8);
        due("15 the first can't", say(x, "f0000t0").day(), 0);
        row("15 the first can't", x, 1);
        due("15 nothing to undo of that", x.count(9), 1);
        due("15 a value that is none", say(x, "t9").day(), 0);
        due("15 LIMIT 07", say(x, "l07").day(), 0);
        due("15 LIMIT 33", say(x, "l33").day(), 0);
        due("15 GREY 5", say(x, "g5").day(), 0);
        due("15 WEIGHT 0", say(x, "w00").day(), 0);
        row("15 WEIGHT 0", x, 1);
        String[] bad = {"q", "m3", "m0000a", "m111110203", "f111", "f1113", "l3", "l3a", "g", "ga", "t/", "w3", "w0", "ei", "ea12345", "g1 "};
        int[] at = {0, 1, 5, 10, 4, 4, 2, 2, 1, 1, 1, 1, 2, 1, 7, 2};
        x.colour(0);
        for (int i = 0; i < bad.length; i++) {
            due("15 " + bad[i], say(x, bad[i]).day(), -1 - at[i]);
        }
        row("15 the ROW stays", x, 400, 400, 400);
        due("15 THE TEXT is emptied", x.count(11), 0);
        due("15 nothing is done", say(x, "t4gq").day(), -4);
        due("15 nothing is done", x.count(4), 8);
        String sixty = "";
        for (int i = 0; i < 15; i++) {
            sixty += i % 2 == 0 ? "t0g0" : "t1g1";
        }
        due("15 sixty signs", say(x, sixty).day(), 30);
        due("15 more", say(x, sixty + "t").day(), -61);
        due("15 the 60 go on", say(x, "w11" + sixty.substring(4) + "t4").day(), -61);
        due("15 the 60 end too early", say(x, "w11" + sixty.substring(4) + "t").day(), -61);
        due("15 wrong ahead of 60", say(x, "w1/" + sixty).day(), -3);
    }

    private static void p16Undo() {
        InkFolds x = new InkFolds();
        due("16 none", x.undo(), -1);
        say(x, "11112030402222506070").patches();
        say(x, "000000000").curve(1);
        say(x, "ac1").link();
        say(x, "ab/cd").picture();
        x.measure(27, 1, 2, 3);
        x.forgets(40);
        x.sets(4, 9);
        x.paints(1, 100, 100, 100);
        say(x, "t1g3").day();
        due("16 nine", x.count(9), 9);
        due("16 day", x.undo(), 8);
        due("16 day", x.count(4) * 10 + x.count(2), 82);
        due("16 paints", x.undo(), 7);
        due("16 paints", x.paints(1, 0, 0, 0), 0);
        due("16 paints", x.undo(), 7);
        due("16 sets", x.undo(), 6);
        due("16 sets", x.count(12), 1);
        due("16 forgets", x.undo(), 5);
        due("16 forgets", x.light(40, 0), 20);
        due("16 forgets", x.count(0), 2);
        due("16 measure", x.undo(), 4);
        due("16 measure", x.light(27, 0), 50);
        due("16 picture", x.undo(), 3);
        due("16 picture", x.count(7), 0);
        due("16 link", x.undo(), 2);
        due("16 link", x.count(5), 0);
        due("16 curve", x.undo(), 1);
        due("16 curve", x.bent(1, 8), 8);
        due("16 patches", x.undo(), 0);
        due("16 patches", x.count(0), 0);
        for (int limit = 8; limit < 24; limit++) {
            x.sets(0, limit);
        }
        due("16 ten are kept", x.count(9), 10);
        for (int left = 9; left >= 0; left--) {
            due("16 ten", x.undo(), left);
        }
        due("16 no more", x.undo(), -1);
        due("16 the latest ten", x.count(1), 13);
        x.sets(1, 0);
        x.sets(7, 0);
        x.measure(81, 0, 0, 0);
        due("16 only such as were done", x.count(9), 1);
        x.keep(0);
        no("16 again(1)", x.again(1));
        due("16 a refused again() forgets none", x.count(9), 1);
        yes("16 again(0)", x.again(0));
        due("16 again() forgets them", x.undo(), -1);
        say(x, "").patches();
        say(x, "").curve(0);
        say(x, "").link();
        say(x, "").picture();
        due("16 with empty texts, too", x.count(9), 4);
    }

    private static void p17Colour() {
        InkFolds x = new InkFolds();
        due("17 colour", x.colour(1200), 3);
        row("17 2 * paper, 1 * 0100, 1 * 1100", x, 200 + 90 + 45, 200 + 50 + 45, 200 + 90 + 81);
        due("17 all", x.colour(8888), 32);
        row("17 all", x, 0, 0, 0);
        due("17 over two LEVELS", x.colour(6), 6);
        row("17 2 * 50 and 2 * 10", x, 120, 120, 120);
        x.measure(40, 100, 0, 50);
        x.colour(4444);
        row("17 a PATCH itself", x, 400, 0, 200);
        x.colour(4445);
        row("17 three of 1111 and one of 1112", x, 304, 4, 154);
        int[] none = {-1, 9, 90, 900, 9000, 8889, 10000, Integer.MAX_VALUE, Integer.MIN_VALUE};
        for (int code : none) {
            due("17 no CODE " + code, x.colour(code), -1);
        }
        row("17 the ROW stays", x, 304, 4, 154);
    }

    private static void p18Limited() {
        InkFolds x = new InkFolds();
        due("18 limited", x.limited(8888, 20), 4448);
        due("18 the greatest T", x.limited(8710, 10), 4410);
        due("18 it bears that", x.limited(1234, 10), 1234);
        due("18 k stays", x.limited(1238, 8), 8);
        due("18 32", x.limited(8888, 32), 8888);
        due("18 CODE 0", x.limited(0, 8), 0);
        due("18 7", x.limited(0, 7), -1);
        due("18 33", x.limited(0, 33), -1);
        due("18 no CODE", x.limited(9, 8), -1);
        row("18 the ROW", x);
    }

    private static void p19Match() {
        InkFolds x = white();
        due("19 all alike: half as much black", x.match(400, 400, 400), 4);
        row("19 all alike", x, 0, 0, 8, 6561);
        int[] wished = {0, 2, 4, 6, 8};
        for (int grey = 0; grey <= 4; grey++) {
            x.sets(1, grey);
            due("19 GREY " + grey, x.match(0, 400, 400), wished[grey]);
        }
        row("19 DISTANCE", x, 160000, 0, 8, 6561);
        x.sets(3, 5);
        x.sets(1, 2);
        due("19 TOP 5, cut", x.match(400, 400, 400), 2);
        x.sets(0, 8);
        x.match(400, 400, 400);
        row("19 LIMIT 8, TOP 5: 495 less 10, 4 and 1 with k 6, 7, 8", x, 0, 0, 5, 495 - 10 - 4 - 1);
        x = white();
        x.measure(1, 50, 50, 50);
        due("19 equally near: the lesser", x.match(400, 400, 400), 0);
        row("19 black of 0 or 8", x, 0, 0, 8, 1458);
        x.sets(1, 3);
        due("19 nearest", x.match(400, 400, 400), 8);
        x = white();
        x.measure(27, 99, 99, 99);
        x.sets(1, 0);
        x.sets(2, 11);
        due("19 the least DISTANCE ahead of the least TOTAL", x.match(396, 396, 396), 4000);
        row("19 within SLACK", x, 0, 0, 8, 3 * 729);
        x.sets(2, 12);
        due("19 at most SLACK", x.match(396, 396, 396), 4000);
        row("19 at most SLACK", x, 0, 0, 8, 5 * 729);
        x = stairs();
        due("19 the least TOTAL", x.match(325, 325, 325), 1000);
        row("19 the least TOTAL", x, 3 * 625, 0, 8, 1458);
        x.measure(9, 50, 50, 50);
        x.measure(18, 0, 0, 0);
        due("19 the least CODE", x.match(350, 350, 350), 100);
        x.sets(4, 4);
        x.match(341, 349, 352);
        row("19 WEIGHTS", x, 4 * 81 + 1 + 4, 0, 8, 2 * 81);
        due("19 401", x.match(401, 0, 0), -1);
        due("19 -1", x.match(0, -1, 0), -1);
        due("19 401", x.match(0, 0, 401), -1);
        row("19 the ROW stays", x, 4 * 81 + 1 + 4, 0, 8, 2 * 81);
    }

    private static void p20Fold() {
        InkFolds x = white();
        due("20 what can be had", x.fold(400, 400, 400), 0);
        row("20", x, 400, 400, 400, 0);
        due("20 the least there is", x.fold(400, 0, 0), 8);
        row("20", x, 133, 133, 133, 3 * 267 * 267);
        x.sets(2, 80000);
        due("20 SLACK or less", x.fold(400, 200, 200), 0);
        row("20", x, 400, 200, 200, 80000);
        x.sets(2, 79999);
        due("20 the first t", x.fold(400, 200, 200), 1);
        row("20 cut to 0", x, 383, 209, 209, 17 * 17 + 2 * 191 * 191);
        x.sets(2, 0);
        due("20 equally near: the first", x.fold(300, 300, 300), 0);
        due("20 401", x.fold(0, 401, 0), -1);
        due("20 -1", x.fold(0, 0, -1), -1);
        row("20 the ROW stays", x, 300, 300, 300, 30000);
    }

    private static void p21Prints() {
        InkFolds x = withLink("ac1");
        due("21 prints", x.prints(200, 360, 360), 5000);
        row("21", x, 160, 350, 350, 1600 + 100 + 100);
        x = stairs();
        due("21 folded first", x.prints(400, 0, 0), 5000);
        row("21 133 is next to 150; DISTANCE to what was wanted", x, 150, 150, 150, 250 * 250 + 2 * 150 * 150);
        due("21 401", x.prints(0, 0, 401), -1);
        due("21 -1", x.prints(-1, 0, 0), -1);
        row("21 the ROW stays", x, 150, 150, 150, 107500);
    }

    private static void p22Ramp() {
        InkFolds x = stairs();
        due("22 ramp", x.ramp(0, 8000), 1);
        row("22", x, 0, 1000, 2000, 3000, 4000, 5000, 6000, 7000, 8000);
        due("22 down", x.ramp(8000, 0), 1);
        row("22", x, 8000, 7000, 6000, 5000, 4000, 3000, 2000, 1000, 0);
        due("22 halves", x.ramp(0, 4000), 1);
        row("22", x, 0, 0, 1000, 1000, 2000, 2000, 3000, 3000, 4000);
        due("22 alike", x.ramp(8, 8), 0);
        x.sets(0, 8);
        x.sets(3, 0);
        due("22 these two need not be OPEN", x.ramp(8888, 8888), 0);
        row("22", x, 8000, 8000, 8000, 8000, 8000, 8000, 8000, 8000, 8000);
        x = white();
        x.measure(27, 100, 100, 100);
        x.measure(54, 0, 0, 0);
        x.sets(1, 0);
        due("22 no 350 is there, 300 is five away", x.ramp(0, 8000), 5);
        row("22 equally far ones by TOTAL", x, 0, 0, 5000, 5000, 6000, 6000, 7000, 7000, 8000);
        due("22 no CODE", x.ramp(9, 0), -1);
        due("22 no CODE", x.ramp(0, 9), -1);
        row("22 the ROW stays", x, 0, 0, 5000, 5000, 6000, 6000, 7000, 7000, 8000);
    }

    private static void p23Way() {
        InkFolds x = stairs();
        due("23 way", x.way(0, 2000, 7500), 2);
        row("23", x, 1000);
        due("23 too far", x.way(0, 2000, 7499), -2);
        row("23 the ROW stays", x, 1000);
        due("23 to itself", x.way(5, 5, -1), 0);
        row("23 nothing", x);
        due("23 without a DISTANCE", x.way(0, 33, 0), 6);
        row("23", x, 1);
        due("23 a single change", x.way(0, 1000, 7500), 1);
        row("23", x, 1000);
        due("23 a single change", x.way(1, 0, 0), 1);
        row("23 CODE 0", x, 0);
        due("23 below 0", x.way(0, 1, -1), -2);
        due("23 the least CODE", x.way(2222, 0, 7500), 8);
        row("23", x, 1222);
        due("23 the least CODE", x.way(0, 2222, 7500), 8);
        row("23", x, 1);
        x.sets(0, 8);
        due("23 less first", x.way(8000, 800, 7500), 16);
        row("23", x, 7000);
        due("23 not OPEN", x.way(0, 8001, 7500), -2);
        due("23 not OPEN", x.way(8001, 0, 7500), -2);
        due("23 not OPEN", x.way(8001, 8001, 7500), -2);
        x.sets(3, 4);
        due("23 TOP", x.way(0, 5, 7500), -2);
        due("23 no CODE", x.way(9, 0, 5), -1);
        due("23 no CODE", x.way(0, 9, 5), -1);
        x = white();
        x.measure(1, 50, 100, 100);
        x.measure(12, 50, 100, 100);
        x.measure(2, 100, 100, 100);
        x.measure(0, 50, 100, 100);
        due("23 black alone is as dark", x.way(0, 4, 0), 4);
    }

    private static void p24Rises() {
        InkFolds x = new InkFolds();
        for (int ink = 0; ink < 4; ink++) {
            due("24 none", x.rises(ink), 0);
        }
        row("24 nothing", x);
        x = white();
        x.measure(40, 50, 50, 50);
        for (int ink = 0; ink < 4; ink++) {
            due("24 behind 1111", x.rises(ink), 3);
            row("24 behind 1111", x, 40, 0);
        }
        x.measure(40, 100, 50, 50);
        due("24 two BANDS", x.rises(2), 2);
        row("24 two BANDS", x, 40, 1);
        x.measure(13, 90, 100, 100);
        due("24 0111 to 1111", x.rises(0), 3);
        row("24 0111 to 1111", x, 13, 0);
        due("24 no ink", x.rises(4), -1);
        due("24 no ink", x.rises(-1), -1);
        row("24 the ROW stays", x, 13, 0);
        x.sheet(3, 0, 0, 0);
        x.forgets(40);
        x.forgets(13);
        due("24 none", x.rises(0), 0);
        row("24 nothing", x);
    }

    private static void p25Reach() {
        InkFolds x = new InkFolds();
        due("25 reach", x.reach(0), 400);
        row("25 2012 is 0, 2002 is 1, so are those between", x, 0, 8048, 400, 0);
        x = stairs();
        due("25 reach", x.reach(2), 400);
        row("25", x, 0, 8000, 400, 0);
        x = white();
        x.measure(1, 0, 100, 100);
        x.sets(3, 2);
        due("25 OPEN ones", x.reach(0), 200);
        row("25", x, 200, 2, 400, 0);
        due("25 all alike", x.reach(1), 0);
        row("25", x, 400, 0, 400, 0);
        due("25 no BAND", x.reach(3), -1);
        due("25 no BAND", x.reach(-1), -1);
        row("25 the ROW stays", x, 400, 0, 400, 0);
    }

    private static void p26Spread() {
        InkFolds x = white();
        due("26 one COLOUR", x.spread(), 1);
        row("26", x, 6561, 0, 6561);
        x = stairs();
        due("26 nine", x.spread(), 9);
        row("26", x, 729, 0, 6561);
        x.sets(0, 8);
        due("26 nine", x.spread(), 9);
        row("26", x, 165, 0, 495);
        x.sets(3, 0);
        due("26 nine", x.spread(), 9);
        row("26", x, 45, 0, 165);
        x = white();
        x.measure(0, 90, 100, 100);
        due("26 of the ones that have most", x.spread(), 5);
    }

    private static void p27Odds() {
        InkFolds x = stairs();
        due("27 odds", x.odds(400, 400, 400, 0), 0);
        row("27", x, 1, 9);
        x.odds(400, 400, 400, 7499);
        row("27", x, 1, 9);
        x.odds(400, 400, 400, 7500);
        row("27", x, 2, 9);
        x.odds(400, 400, 400, 480000);
        row("27 all", x, 1, 1);
        x.odds(400, 400, 400, -1);
        row("27 none", x, 0, 1);
        x.sets(0, 8);
        x.odds(0, 0, 0, 0);
        row("27", x, 1, 495);
        due("27 401", x.odds(0, 0, 401, 0), -1);
        due("27 -1", x.odds(-1, 0, 0, 0), -1);
        row("27 the ROW stays", x, 1, 495);
    }

    private static void p28Through() {
        InkFolds x = withLink("ac1");
        due("28 through", x.through(7123), 8123);
        due("28 no CODE", x.through(9), -1);
        due("28 no CODE", x.through(-1), -1);
        due("28 no CODE", x.through(8890), -1);
        row("28 the ROW", x);
    }

    private static void p29Sources() {
        InkFolds x = withLink("hc");
        due("29 two", x.sources(3000), 2);
        row("29", x, 6000, 7000);
        due("29 one", x.sources(4123), 1);
        row("29", x, 8123, 8123);
        due("29 none", x.sources(5000), 0);
        row("29 nothing", x);
        x.sets(0, 8);
        x.sets(3, 0);
        due("29 OPEN or not", x.sources(3888), 2);
        due("29 no CODE", x.sources(9), -1);
        row("29 the ROW stays", x, 6888, 7888);
        x = withLink("wc0wm0wy0wk0");
        due("29 all into one", x.sources(0), 6561);
        row("29 all into one", x, 0, 8888);
    }

    private static void p30Rounds() {
        InkFolds x = withLink("hc");
        due("30 8, 4, 2, 1, 0, 0", x.rounds(8000), 4);
        row("30", x, 1, 0);
        x = withLink("xcmwc5");
        due("30 83, 38, 53, 35, 53", x.rounds(8300), 2);
        row("30", x, 2, 3500);
        x = new InkFolds();
        due("30 CODE 0", x.rounds(0), 0);
        row("30", x, 1, 0);
        due("30 no LINK", x.rounds(5), 0);
        row("30", x, 1, 5);
        due("30 no CODE", x.rounds(9), -1);
        row("30 the ROW stays", x, 1, 5);
        x = withLink("xcmxmyxyk");
        due("30 four", x.rounds(4312), 0);
        row("30", x, 4, 1243);
    }

    /** Letters a 400, b 200, c 385, d 370, e 383 in all BANDS. */
    private static InkFolds painted(String picture) {
        InkFolds x = stairs();
        x.paints(0, 400, 400, 400);
        x.paints(1, 200, 200, 200);
        x.paints(2, 385, 385, 385);
        x.paints(3, 370, 370, 370);
        x.paints(4, 383, 383, 383);
        say(x, picture).picture();
        return x;
    }

    private static void p31Press() {
        due("31 no PICTURE", painted("").press(1), -2);
        due("31 another how", painted("").press(2), -1);
        InkFolds x = painted("ab/ba");
        due("31 press", x.press(0), 2);
        row("31", x, 8, 0, 0, 0, 0);
        due("31 handed on", x.press(1), 2);
        row("31 nothing is left over", x, 8, 0, 0, 0, 0);
        due("31 another how", x.press(-1), -1);
        x = painted("cc/cc");
        due("31 each by itself", x.press(0), 1);
        row("31", x, 0, 0, 0, 0, 4 * 675);
        due("31 385, 378, 377, 363", x.press(1), 2);
        row("31 the last is 350", x, 1, 0, 0, 0, 3 * 675 + 3675);
        String side = "cccccccc";
        for (int i = 0; i < 7; i++) {
            side += "/cccccccc";
        }
        InkFolds full = painted(side);
        due("31 64 CELLS", full.press(0), 1);
        due("31 64 CELLS", full.press(1), 2);
        due("31 the last of 64", full.cell(1, 63) % 1000, 0);
        x.sets(1, 4);
        due("31 black", x.press(0), 1);
        row("31 black", x, 0, 0, 0, 32, 4 * 675);
        due("31 another how", x.press(2), -1);
        row("31 the ROW stays", x, 0, 0, 0, 32, 4 * 675);
    }

    private static void p32Cell() {
        due("32 another how", painted("").cell(2, 9), -1);
        due("32 no PICTURE", painted("").cell(0, -1), -2);
        InkFolds x = painted("cc/cc");
        due("32 cell", x.cell(1, 3), 1000);
        due("32 cell", x.cell(1, 2), 0);
        due("32 cell", x.cell(0, 3), 0);
        due("32 no CELL", x.cell(0, 4), -1);
        due("32 no CELL", x.cell(1, -1), -1);
        due("32 another how", x.cell(2, 0), -1);
        row("32 the ROW", x);
        due("32 put to 400 ahead of handing on", painted("da/ad").cell(1, 3), 1000);
        due("32 of -17 the rest, -9, goes down: 374", painted("e/e").cell(1, 1), 1000);
        due("32 of -17 half, -8, goes right: 375", painted("ee").cell(1, 1), 0);
        due("32 385, 377, 373", painted("c/c/c").cell(1, 2), 1000);
        due("32 385, 378, 374", painted("ccc").cell(1, 2), 1000);
        due("32 the end of a row hands nothing on to the next one", painted("ac/ca").cell(1, 2), 0);
    }

    private static void p33Slips() {
        due("33 no PICTURE", painted("").slips(0, 0, 0), -2);
        due("33 NONE is first", painted("").slips(4, 0, 0), -1);
        InkFolds x = painted("ab/ba");
        due("33 to the left", x.slips(0, 1, 0), 3);
        row("33", x, 360000);
        due("33 below", x.slips(0, 0, -1), 3);
        row("33", x, 360000);
        due("33 not at all", x.slips(0, 0, 0), 0);
        row("33", x, 0);
        due("33 one aside, one down", x.slips(0, 1, 1), 2);
        row("33 of the fourth that of the first", x, 240000);
        due("33 another plate", x.slips(3, 1, 1), 0);
        due("33 far", x.slips(0, 8, -8), 2);
        due("33 x", x.slips(0, 9, 0), -1);
        due("33 x", x.slips(0, -9, 0), -1);
        due("33 y", x.slips(0, 0, 9), -1);
        due("33 y", x.slips(0, 0, -9), -1);
        due("33 ink", x.slips(4, 0, 0), -1);
        due("33 ink", x.slips(-1, 0, 0), -1);
        row("33 the ROW stays", x, 240000);
    }

    private static void p34Greys() {
        InkFolds x = stairs();
        due("34 all are grey", x.greys(3, 0), 729);
        row("34", x, 8003, 0, 3, 1200);
        due("34 none", x.greys(3, -1), 0);
        row("34 nothing", x);
        x = white();
        x.measure(3, 100, 100, 99);
        x.measure(6, 100, 100, 98);
        due("34 y 0", x.greys(0, 0), 81);
        row("34 y 0", x, 0, 1200, 0, 1200);
        due("34 y 0 .. 4", x.greys(0, 4), 5 * 81);
        row("34 each of y takes 1 of BAND 2", x, 40, 1196, 0, 1200);
        due("34 y 0 .. 8", x.greys(8, 8), 729);
        row("34 y 0 .. 8", x, 88, 1192, 8, 1200);
        x.sets(3, 2);
        due("34 OPEN ones", x.greys(3, 0), 0);
        due("34 no AMOUNT", x.greys(9, 0), -1);
        due("34 no AMOUNT", x.greys(-1, 0), -1);
        row("34 the ROW stays", x);
        x = new InkFolds();
        due("34 the paper alone", x.greys(0, 0) > 0 ? 1 : 0, 1);
        due("34 the lightest is the paper", x.row(2), 0);
    }

    private static void p35Replaces() {
        InkFolds x = white();
        for (int ink : new int[] {27, 1}) {
            x.measure(ink, 50, 50, 50);
            x.measure(2 * ink, 0, 0, 0);
        }
        due("35 the most of k", x.replaces(0, 1000, 0), 1);
        row("35 one of c or one of k", x, 162);
        due("35 the least TOTAL, of these the most of k", x.replaces(1, 1000, 0), 1);
        due("35 the least of k", x.replaces(2, 1000, 0), 1000);
        due("35 within d", x.replaces(1, 1000, 7500), 0);
        due("35 within d", x.replaces(0, 1000, 7499), 1);
        due("35 CODE 0", x.replaces(0, 0, 0), 0);
        row("35 CODE 0", x, 81);
        due("35 none", x.replaces(0, 1000, -1), -2);
        x.sets(3, 0);
        due("35 OPEN ones", x.replaces(0, 1, 0), 1000);
        row("35 OPEN ones", x, 81);
        due("35 another how", x.replaces(3, 0, 0), -1);
        due("35 another how", x.replaces(-1, 0, -1), -1);
        due("35 no CODE", x.replaces(0, 9, 0), -1);
        row("35 the ROW stays", x, 81);
    }

    private static void p36Doubt() {
        InkFolds x = new InkFolds();
        due("36 none is MEASURED", x.doubt(), -2);
        x.measure(40, 60, 60, 60);
        due("36 doubt", x.doubt(), 40);
        row("36", x, 4800);
        x.measure(80, 40, 40, 40);
        due("36 equal ones", x.doubt(), 40);
        row("36", x, 4800);
        x.measure(80, 41, 40, 40);
        due("36 the greatest", x.doubt(), 80);
        row("36", x, 4881);
        x.sets(5, 3);
        x.measure(40, 60, 61, 60);
        due("36 WEIGHTS", x.doubt(), 40);
        row("36", x, 3200 + 3 * 41 * 41);
        x.forgets(40);
        x.measure(80, 0, 0, 0);
        due("36 as reckoned", x.doubt(), 80);
        row("36", x, 0);
        x.forgets(80);
        due("36 none is MEASURED", x.doubt(), -2);
        row("36 the ROW stays", x, 0);
    }

    private static void p37Asks() {
        InkFolds x = new InkFolds();
        due("37 1111 is in the midst", x.asks(), 40);
        row("37 4 times 256 less 3 times 81", x, 781);
        for (int patch = 0; patch < 80; patch++) {
            x.measure(patch, 50, 50, 50);
        }
        x.sets(0, 8);
        due("37 of 0, too", x.asks(), 80);
        row("37 of 0, too", x, 0);
        x.forgets(79);
        due("37 of equal ones the least", x.asks(), 79);
        x.measure(79, 1, 1, 1);
        due("37 the last one", x.measure(80, 1, 1, 1), 72);
        due("37 all are MEASURED", x.asks(), -2);
        row("37 the ROW stays", x, 0);
    }

    private static void p38Other() {
        InkFolds x = white();
        due("38 nothing is kept", x.other(0), -2);
        due("38 another i", x.other(2), -1);
        due("38 another i", x.other(-1), -1);
        x.keep(1);
        due("38 the same", x.other(1), 0);
        row("38 nothing", x);
        x.measure(27, 50, 50, 50);
        x.measure(54, 0, 0, 0);
        due("38 with c", x.other(1), 5832);
        row("38", x, 480000, 8000);
        x.sets(0, 8);
        x.sets(6, 5);
        due("38 OPEN ones, WEIGHTS as they are", x.other(1), 495 - 165);
        row("38", x, 7 * 160000, 8000);
        due("38 nothing is kept", x.other(0), -2);
        row("38 the ROW stays", x, 7 * 160000, 8000);
        due("38 a question", x.light(27, 0), 50);
        x.keep(0);
        due("38 the same", x.other(0), 0);
        x = white();
        x.sets(0, 11);
        x.sets(3, 0);
        x.keep(0);
        x.measure(75, 99, 100, 100);
        due("38 2210 counts in one alone", x.other(0), 1);
        row("38 once, by 1", x, 1, 5510);
    }

    private static void p39Carry() {
        InkFolds x = stairs();
        due("39 nothing is kept", x.carry(0, 0), -2);
        due("39 NONE is first", x.carry(0, 9), -1);
        due("39 another i", x.carry(2, 0), -1);
        x.keep(0);
        x.measure(9, 50, 50, 50);
        x.measure(18, 0, 0, 0);
        due("39 as by LIGHT then", x.carry(0, 3700), 300);
        row("39", x, 0);
        x.sheet(3, 0, 0, 0);
        due("39 by LIGHT now", x.carry(0, 8000), 0);
        row("39", x, 480000);
        due("39 nothing is kept", x.carry(1, 0), -2);
        due("39 no CODE", x.carry(0, -1), -1);
        row("39 the ROW stays", x, 480000);
    }

    private static void p40Drifts() {
        InkFolds x = white();
        due("40 seed 144: ink c, LEVEL 1, BAND 1, 10 less", x.drifts(144, 1), 27);
        row("40 the nearest has four of c", x, 4004, 160 * 160 + 2 * 200 * 200);
        due("40 nothing changes", x.light(27, 1), 100);
        due("40 nothing to undo", x.count(9), 0);
        due("40 no day", x.drifts(1, 0), -1);
        due("40 41 days", x.drifts(1, 41), -1);
        due("40 below 0", x.drifts(1, -1), -1);
        row("40 the ROW stays", x, 4004, 105600);
        x = new InkFolds();
        yes("40 forty days", x.drifts(Integer.MIN_VALUE, 40) >= 0);
        due("40 two numbers", x.count(10), 2);
    }

    private static void p41Keep() {
        InkFolds x = new InkFolds();
        no("41 keep(-1)", x.keep(-1));
        no("41 keep(2)", x.keep(2));
        yes("41 keep(0)", x.keep(0));
        yes("41 keep(1)", x.keep(1));
        x.sets(0, 9);
        yes("41 over it", x.keep(1));
        x.sets(0, 10);
        yes("41", x.again(1));
        due("41 the later one", x.count(1), 9);
        yes("41", x.again(0));
        due("41 the other one stays", x.count(1), 32);
    }

    private static void p42Again() {
        InkFolds x = new InkFolds();
        no("42 nothing kept", x.again(0));
        no("42 another i", x.again(2));
        no("42 another i", x.again(-1));
        x.measure(40, 1, 2, 3);
        say(x, "000000000").curve(3);
        say(x, "ac1").link();
        say(x, "ab").picture();
        x.sets(6, 4);
        x.paints(5, 1, 1, 1);
        x.keep(0);
        x.colour(0);
        say(x, "xyz");
        x.forgets(40);
        x.measure(0, 1, 1, 1);
        say(x, "").curve(3);
        say(x, "").link();
        say(x, "").picture();
        x.sets(6, 9);
        x.paints(5, 2, 2, 2);
        say(x, "xyz");
        yes("42 again", x.again(0));
        due("42 LIGHT", x.light(40, 2), 3);
        due("42 LIGHT", x.light(0, 2), 100);
        due("42 CURVES", x.bent(3, 8), 0);
        due("42 THE LINK", x.through(0), 1000);
        due("42 PICTURE", x.count(7), 2);
        due("42 WEIGHT", x.count(14), 4);
        due("42 PALETTE", x.paints(5, 1, 1, 1), 0);
        due("42 what could be undone is forgotten", x.count(9), 1);
        due("42 THE TEXT stays", x.count(11), 3);
        row("42 the ROW stays", x, 400, 400, 400);
        x.sets(0, 20);
        yes("42 again and again", x.again(0));
        due("42 LIMIT", x.count(1), 32);
    }

    private static void p43Count() {
        InkFolds x = withLink("lv", "pp");
        say(x, "ab/cd/ef").picture();
        x.measure(40, 0, 0, 0);
        x.sets(0, 20);
        x.sets(1, 3);
        x.sets(2, 77);
        x.sets(3, 5);
        x.sets(4, 2);
        x.sets(5, 3);
        x.sets(6, 4);
        say(x, "12345");
        x.reach(0);
        int[] counts = {1, 20, 3, 77, 5, 4, 2, 2, 3, 10, 4, 5, 2, 3, 4};
        for (int what = 0; what < counts.length; what++) {
            due("43 count(" + what + ")", x.count(what), counts[what]);
        }
        due("43 another what", x.count(15), -1);
        due("43 another what", x.count(-1), -1);
    }

    private static void p44Row() {
        InkFolds x = new InkFolds();
        due("44 no ROW", thrown(() -> x.row(0)), 1);
        x.colour(4000);
        due("44 row(0)", x.row(0), 200);
        due("44 row(2)", x.row(2), 360);
        due("44 none such", thrown(() -> x.row(3)), 1);
        due("44 none such", thrown(() -> x.row(-1)), 1);
        x.way(0, 0, 0);
        due("44 an empty one", thrown(() -> x.row(0)), 1);
    }

    /** The example that README.md tells: 4442 is grey as six of k, and g4 makes that of it. */
    private static void readme() {
        InkFolds inks = new InkFolds();
        inks.sign(0x67340000);
        inks.end(2);
        due("README link", inks.link(), 1);
        due("README prints", inks.prints(120, 130, 110), 6);
        row("README the ROW", inks, 120, 120, 120, 200);
    }

    public static void main(String[] args) {
        readme();
        p1New();
        p2Sign();
        p3End();
        p4Patches();
        p5Curve();
        p6LinkTold();
        p6LinkDone();
        p7Picture();
        p8Light();
        p9Bent();
        p10Sheet();
        p11Measure();
        p12Forgets();
        p13Sets();
        p14Paints();
        p15Day();
        p16Undo();
        p17Colour();
        p18Limited();
        p19Match();
        p20Fold();
        p21Prints();
        p22Ramp();
        p23Way();
        p24Rises();
        p25Reach();
        p26Spread();
        p27Odds();
        p28Through();
        p29Sources();
        p30Rounds();
        p31Press();
        p32Cell();
        p33Slips();
        p34Greys();
        p35Replaces();
        p36Doubt();
        p37Asks();
        p38Other();
        p39Carry();
        p40Drifts();
        p41Keep();
        p42Again();
        p43Count();
        p44Row();
        System.out.println(wrong == 0 ? "all answers are as due" : wrong + " answers are not as due");
        if (wrong != 0) {
            System.exit(1);
        }
    }
}
