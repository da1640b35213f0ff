import java.util.ArrayDeque;
import java.util.ArrayList;
import java.util.Arrays;
import java.util.Comparator;
import java.util.HashMap;
import java.util.HashSet;
import java.util.List;
import java.util.Map;
import java.util.NoSuchElementException;
import java.util.Random;
import java.util.Set;
import java.util.TreeMap;

/**
 * Runs of calls by a seed on InkFolds and on a slow model of the document, written apart from it; after
 * each call the answers, the ROW and all that count() tells must be the same.
 */
public final class AgainstModel {
    private static final int RUNS = 160;
    private static final int CALLS = 250;

    /** What undo() brings back, as plain values that are copied whole. */
    private static final class World {
        Map<Integer, int[]> lights = new TreeMap<>();
        Set<Integer> measured = new HashSet<>();
        int[][] curves = new int[4][9];
        int[][] palette = new int[8][3];
        List<String> picture = new ArrayList<>();
        Told link = new Told("", 0, null);
        int limit = 32;
        int grey = 2;
        int slack = 0;
        int top = 8;
        int[] weights = {1, 1, 1};

        World copy() {
            World w = new World();
            for (Map.Entry<Integer, int[]> e : lights.entrySet()) {
                w.lights.put(e.getKey(), e.getValue().clone());
            }
            w.measured.addAll(measured);
            for (int i = 0; i < 4; i++) {
                w.curves[i] = curves[i].clone();
            }
            for (int i = 0; i < 8; i++) {
                w.palette[i] = palette[i].clone();
            }
            w.picture.addAll(picture);
            w.link = link;
            w.limit = limit;
            w.grey = grey;
            w.slack = slack;
            w.top = top;
            w.weights = weights.clone();
            return w;
        }
    }

    private static final class Told {
        final String text;
        final int limit;
        final Told former;

        Told(String text, int limit, Told former) {
            this.text = text;
            this.limit = limit;
            this.former = former;
        }
    }

    private static final class Model {
        World w = new World();
        String text = "";
        List<Long> row = new ArrayList<>();
        List<World> undoable = new ArrayList<>();
        World[] kept = new World[2];
        Map<String, int[][]> colourTables = new HashMap<>();

        Model() {
            for (int ink = 0; ink < 4; ink++) {
                for (int a = 0; a < 9; a++) {
                    w.curves[ink][a] = a;
                }
            }
            w.lights.put(0, new int[] {100, 100, 100});
            w.lights.put(27, new int[] {50, 90, 90});
            w.lights.put(54, new int[] {10, 80, 80});
            w.lights.put(9, new int[] {90, 50, 90});
            w.lights.put(18, new int[] {80, 10, 80});
            w.lights.put(3, new int[] {90, 90, 50});
            w.lights.put(6, new int[] {80, 80, 10});
            w.lights.put(1, new int[] {50, 50, 50});
            w.lights.put(2, new int[] {10, 10, 10});
        }

        static String base(int v, int base, int places) {
            String s = Integer.toString(v, base);
            while (s.length() < places) {
                s = "0" + s;
            }
            return s;
        }

        static boolean plain(int patch) {
            return PLAIN.contains(patch);
        }

        static int reckoned(World w, int patch, int band) {
            String levels = base(patch, 3, 4);
            int paper = w.lights.get(0)[band];
            int light = paper;
            for (int ink = 0; ink < 4; ink++) {
                if (levels.charAt(ink) != '0') {
                    String single = "0000".substring(0, ink) + levels.charAt(ink) + "0000".substring(ink + 1);
                    int own = w.lights.get(Integer.parseInt(single, 3))[band];
                    light = paper == 0 ? 0 : Math.min(100, light * own / paper);
                }
            }
            return light;
        }

        static int lightOf(World w, int patch, int band) {
            return plain(patch) || w.measured.contains(patch) ? w.lights.get(patch)[band] : reckoned(w, patch, band);
        }

        static boolean isCode(int code) {
            return code >= 0 && code <= 8888 && code % 10 != 9 && code % 100 < 90 && code % 1000 < 900;
        }

        static int[] digits(int code) {
            return new int[] {code / 1000, code / 100 % 10, code / 10 % 10, code % 10};
        }

        static int code(int[] d) {
            return d[0] * 1000 + d[1] * 100 + d[2] * 10 + d[3];
        }

        static int total(int code) {
            return code / 1000 + code / 100 % 10 + code / 10 % 10 + code % 10;
        }

        /** PATCH and how often it counts, of those that count. */
        static Map<Integer, Integer> parts(int code) {
            int[] step = {27, 9, 3, 1};
            int[] d = digits(code);
            int patch = 0;
            List<int[]> rests = new ArrayList<>();
            for (int ink = 0; ink < 4; ink++) {
                int level = d[ink] <= 3 ? 0 : 1;
                patch += level * step[ink];
                rests.add(new int[] {d[ink] - 4 * level, step[ink]});
            }
            rests.sort(Comparator.comparing((int[] x) -> -x[0]));
            Map<Integer, Integer> parts = new HashMap<>();
            int ahead = 4;
            for (int[] rest : rests) {
                if (ahead > rest[0]) {
                    parts.put(patch, ahead - rest[0]);
                }
                ahead = rest[0];
                patch += rest[1];
            }
            if (ahead > 0) {
                parts.put(patch, ahead);
            }
            return parts;
        }

        static final Set<Integer> PLAIN = Set.of(0, 1, 2, 3, 6, 9, 18, 27, 54);
        static final List<Integer> ALL = new ArrayList<>();
        static final Map<Integer, Map<Integer, Integer>> PARTS = new HashMap<>();

        static {
            for (int code = 0; code <= 8888; code++) {
                if (isCode(code)) {
                    ALL.add(code);
                    PARTS.put(code, parts(code));
                }
            }
        }

        int[][] colours(World of) {
            StringBuilder key = new StringBuilder();
            int[][] light = new int[81][3];
            for (int patch = 0; patch < 81; patch++) {
                for (int band = 0; band < 3; band++) {
                    light[patch][band] = lightOf(of, patch, band);
                    key.append((char) light[patch][band]);
                }
            }
            int[][] table = colourTables.get(key.toString());
            if (table == null) {
                table = new int[8889][];
                for (int code : ALL) {
                    int[] colour = new int[3];
                    for (Map.Entry<Integer, Integer> part : PARTS.get(code).entrySet()) {
                        for (int band = 0; band < 3; band++) {
                            colour[band] += part.getValue() * light[part.getKey()][band];
                        }
                    }
                    table[code] = colour;
                }
                colourTables.clear();
                colourTables.put(key.toString(), table);
            }
            return table;
        }

        int dist(int[] a, int[] b) {
            int sum = 0;
            for (int band = 0; band < 3; band++) {
                sum += w.weights[band] * (a[band] - b[band]) * (a[band] - b[band]);
            }
            return sum;
        }

        boolean isOpen(int code) {
            return total(code) <= w.limit && code % 10 <= w.top;
        }

        List<Integer> open() {
            List<Integer> open = new ArrayList<>();
            for (int code : ALL) {
                if (isOpen(code)) {
                    open.add(code);
                }
            }
            return open;
        }

        /** CODE, DISTANCE, LOW, HIGH, how many FITS. */
        int[] matched(World of, int[] wanted) {
            int[][] table = colours(of);
            List<Integer> open = open();
            int least = Integer.MAX_VALUE;
            for (int code : open) {
                least = Math.min(least, dist(table[code], wanted));
            }
            List<Integer> fits = new ArrayList<>();
            int low = 9;
            int high = -1;
            for (int code : open) {
                if (dist(table[code], wanted) <= least + w.slack) {
                    fits.add(code);
                    low = Math.min(low, code % 10);
                    high = Math.max(high, code % 10);
                }
            }
            int wished = low + (high - low) * w.grey / 4;
            fits.sort(Comparator.comparing((Integer c) -> Math.abs(c % 10 - wished)).thenComparing(c -> c % 10)
                    .thenComparing(c -> dist(table[c], wanted)).thenComparing(c -> total(c)).thenComparing(c -> c));
            return new int[] {fits.get(0), dist(table[fits.get(0)], wanted), low, high, fits.size()};
        }

        static int[] foldOne(int[] wanted, int t) {
            int m = (wanted[0] + wanted[1] + wanted[2]) / 3;
            int[] to = new int[3];
            for (int i = 0; i < 3; i++) {
                int part = Math.abs(wanted[i] - m) * (8 - t) / 8;
                to[i] = wanted[i] < m ? m - part : m + part;
            }
            return to;
        }

        int leastOpen(int[] wanted) {
            int least = Integer.MAX_VALUE;
            int[][] table = colours(w);
            for (int code : ALL) {
                if (isOpen(code)) {
                    least = Math.min(least, dist(table[code], wanted));
                }
            }
            return least;
        }

        int theFold(int[] wanted) {
            int[] least = new int[9];
            for (int t = 0; t < 9; t++) {
                least[t] = leastOpen(foldOne(wanted, t));
            }
            for (int t = 0; t < 9; t++) {
                if (least[t] <= w.slack) {
                    return t;
                }
            }
            int best = 0;
            for (int t = 8; t >= 0; t--) {
                if (least[t] <= least[best]) {
                    best = t;
                }
            }
            return best;
        }

        static void limit(int[] d, int n) {
            for (int t = 8; t >= 0; t--) {
                int[] e = {Math.min(t, d[0]), Math.min(t, d[1]), Math.min(t, d[2]), d[3]};
                if (total(code(e)) <= n) {
                    System.arraycopy(e, 0, d, 0, 4);
                    return;
                }
            }
        }

        static int closing(String s, int from) {
            int depth = 0;
            for (int p = from; p < s.length(); p++) {
                if (s.charAt(p) == '(') {
                    depth++;
                } else if (s.charAt(p) == ')') {
                    depth--;
                    if (depth == 0) {
                        return p;
                    }
                }
            }
            return s.length();
        }

        void go(String s, Told told, int[] d) {
            int p = 0;
            while (p < s.length()) {
                char c = s.charAt(p);
                int a = p + 1 < s.length() ? "cmyk".indexOf(s.charAt(p + 1)) : -1;
                switch (c) {
                    case 'l' -> limit(d, told.limit);
                    case 'p' -> go(told.former.text, told.former, d);
                    case 'v' -> {
                        for (int ink = 0; ink < 4; ink++) {
                            d[ink] = w.curves[ink][d[ink]];
                        }
                    }
                    case 'g' -> {
                        int g = Math.min(8 - d[3], Math.min(d[0], Math.min(d[1], d[2])) * (s.charAt(++p) - '0') / 4);
                        d[0] -= g;
                        d[1] -= g;
                        d[2] -= g;
                        d[3] += g;
                    }
                    case 'u' -> {
                        int u = Math.min(s.charAt(++p) - '0', Math.min(d[3], 8 - Math.max(d[0], Math.max(d[1], d[2]))));
                        d[0] += u;
                        d[1] += u;
                        d[2] += u;
                        d[3] -= u;
                    }
                    case 'a' -> d[a] = Math.min(8, d[a] + s.charAt(p += 2) - '0');
                    case 's' -> d[a] = Math.max(0, d[a] - (s.charAt(p += 2) - '0'));
                    case 'w' -> d[a] = Math.min(d[a], s.charAt(p += 2) - '0');
                    case 'h' -> {
                        d[a] = d[a] / 2;
                        p++;
                    }
                    case 'x' -> {
                        int b = "cmyk".indexOf(s.charAt(p + 2));
                        int was = d[a];
                        d[a] = d[b];
                        d[b] = was;
                        p += 2;
                    }
                    default -> {
                        int from = s.indexOf('(', p);
                        int to = closing(s, from);
                        int times;
                        if (c == 'n') {
                            times = s.charAt(p + 1) - '0';
                        } else if (c == 'o') {
                            times = d[a];
                        } else if (c == 'i') {
                            times = d[a] > s.charAt(p + 2) - '0' ? 1 : 0;
                        } else {
                            times = d[a] > d["cmyk".indexOf(s.charAt(p + 2))] ? 1 : 0;
                        }
                        for (int i = 0; i < times; i++) {
                            go(s.substring(from + 1, to), told, d);
                        }
                        p = to;
                    }
                }
                p++;
            }
        }

        int throughOf(int code) {
            int[] d = digits(code);
            go(w.link.text, w.link, d);
            return code(d);
        }

        static long longOf(String s, Told told) {
            long sum = 0;
            int p = 0;
            while (p < s.length()) {
                char c = s.charAt(p);
                if (c == 'p') {
                    sum += longOf(told.former.text, told.former);
                    p++;
                } else if ("noij".indexOf(c) >= 0) {
                    int from = s.indexOf('(', p);
                    int to = closing(s, from);
                    int times = c == 'n' ? s.charAt(p + 1) - '0' : c == 'o' ? 8 : 1;
                    sum += 1 + times * longOf(s.substring(from + 1, to), told);
                    p = to + 1;
                } else {
                    sum++;
                    p += "lv".indexOf(c) >= 0 ? 1 : "guh".indexOf(c) >= 0 ? 2 : 3;
                }
            }
            return sum;
        }

        static int age(Told told) {
            if (told.text.isEmpty()) {
                return 0;
            }
            return told.text.indexOf('p') >= 0 ? age(told.former) + 1 : 1;
        }

        // texts: a text is right up to p if some ending makes it whole, so far as its own signs tell

        static int firstWrong(String s, String kind, int most) {
            String cut = s.substring(0, Math.min(most, s.length()));
            Reader reader = new Reader(cut);
            int wrong = kind.equals("link") ? reader.steps(0) : reader.many(kind);
            if (wrong >= 0 && wrong < cut.length()) {
                return wrong;
            }
            return s.length() > most ? most : wrong;
        }

        /** Reads by going down; answers the place of the wrong sign, or -1. */
        private static final class Reader {
            final String s;
            int p = 0;

            Reader(String s) {
                this.s = s;
            }

            boolean one(String regex) {
                if (p < s.length() && s.substring(p, p + 1).matches(regex)) {
                    p++;
                    return true;
                }
                return false;
            }

            boolean all(String... regexes) {
                for (String regex : regexes) {
                    if (!one(regex)) {
                        return false;
                    }
                }
                return true;
            }

            boolean all(int n, String regex) {
                for (int i = 0; i < n; i++) {
                    if (!one(regex)) {
                        return false;
                    }
                }
                return true;
            }

            int many(String kind) {
                while (p < s.length()) {
                    boolean ok;
                    if (kind.equals("patches")) {
                        ok = all(4, "[0-2]") && all(6, "[0-9]");
                    } else {
                        ok = one("m") ? all(4, "[0-2]") && all(6, "[0-9]")
                                : one("f") ? all(4, "[0-2]")
                                : one("l") ? all(2, "[0-9]")
                                : one("[gt]") ? one("[0-9]")
                                : one("w") ? all("[0-2]", "[0-9]")
                                : one("e") && one("[a-h]") && all(6, "[0-9]");
                    }
                    if (!ok) {
                        return p;
                    }
                }
                return -1;
            }

            int steps(int depth) {
                while (p < s.length()) {
                    if (depth > 0 && s.charAt(p) == ')') {
                        return -1;
                    }
                    String ink = "[cmyk]";
                    boolean group = false;
                    boolean ok;
                    if (one("[lvp]")) {
                        ok = true;
                    } else if (one("g")) {
                        ok = one("[0-4]");
                    } else if (one("u")) {
                        ok = one("[0-8]");
                    } else if (one("[asw]")) {
                        ok = all(ink, "[0-8]");
                    } else if (one("h")) {
                        ok = one(ink);
                    } else if (one("x")) {
                        ok = all(ink, ink);
                    } else {
                        group = true;
                        ok = one("n") ? one("[0-9]") : one("o") ? one(ink) : one("i") ? all(ink, "[0-8]")
                                : one("j") && all(ink, ink);
                    }
                    if (!ok) {
                        return p;
                    }
                    if (group) {
                        if (depth == 3 || !one("\\(")) {
                            return p;
                        }
                        int inner = steps(depth + 1);
                        if (inner >= 0) {
                            return inner;
                        }
                        if (!one("\\)")) {
                            return p;
                        }
                    }
                }
                return -1;
            }
        }

        void keepForUndo(World was) {
            undoable.add(was);
            if (undoable.size() > 10) {
                undoable.remove(0);
            }
        }

        void tell(long... numbers) {
            row = new ArrayList<>();
            for (long n : numbers) {
                row.add(n);
            }
        }

        static boolean in(int v, int a, int b) {
            return a <= v && v <= b;
        }

        static boolean isColour(int r, int q, int b) {
            return in(r, 0, 400) && in(q, 0, 400) && in(b, 0, 400);
        }

        int doMeasure(int patch, int r, int q, int b) {
            if (!in(patch, 0, 80) || !in(r, 0, 100) || !in(q, 0, 100) || !in(b, 0, 100)) {
                return -1;
            }
            w.lights.put(patch, new int[] {r, q, b});
            if (!plain(patch)) {
                w.measured.add(patch);
            }
            return w.measured.size();
        }

        int doForget(int patch) {
            if (!in(patch, 0, 80)) {
                return -1;
            }
            return w.measured.remove(patch) ? w.measured.size() : -2;
        }

        int doSet(int what, int v) {
            int was;
            switch (what) {
                case 0:
                    was = w.limit;
                    if (in(v, 8, 32)) {
                        w.limit = v;
                    } else {
                        return -1;
                    }
                    break;
                case 1:
                    was = w.grey;
                    if (in(v, 0, 4)) {
                        w.grey = v;
                    } else {
                        return -1;
                    }
                    break;
                case 2:
                    was = w.slack;
                    if (in(v, 0, 99999)) {
                        w.slack = v;
                    } else {
                        return -1;
                    }
                    break;
                case 3:
                    was = w.top;
                    if (in(v, 0, 8)) {
                        w.top = v;
                    } else {
                        return -1;
                    }
                    break;
                case 4:
                case 5:
                case 6:
                    was = w.weights[what - 4];
                    if (in(v, 1, 9)) {
                        w.weights[what - 4] = v;
                    } else {
                        return -1;
                    }
                    break;
                default:
                    return -1;
            }
            return was == v ? -2 : was;
        }

        int doPaint(int letter, int r, int q, int b) {
            if (!in(letter, 0, 7) || !isColour(r, q, b)) {
                return -1;
            }
            int[] was = w.palette[letter];
            w.palette[letter] = new int[] {r, q, b};
            return dist(was, w.palette[letter]);
        }

        int num(String s, int from, int to) {
            return Integer.parseInt(s.substring(from, to));
        }

        int act(String s) {
            switch (s.charAt(0)) {
                case 'm':
                    return doMeasure(Integer.parseInt(s.substring(1, 5), 3), num(s, 5, 7), num(s, 7, 9), num(s, 9, 11));
                case 'f':
                    return doForget(Integer.parseInt(s.substring(1, 5), 3));
                case 'l':
                    return doSet(0, num(s, 1, 3));
                case 'g':
                    return doSet(1, num(s, 1, 2));
                case 't':
                    return doSet(3, num(s, 1, 2));
                case 'w':
                    return doSet(4 + num(s, 1, 2), num(s, 2, 3));
                default:
                    return doPaint(s.charAt(1) - 'a', 4 * num(s, 2, 4), 4 * num(s, 4, 6), 4 * num(s, 6, 8));
            }
        }

        List<int[]> press(int how) {
            int height = w.picture.size();
            int width = w.picture.get(0).length();
            int[][][] came = new int[height + 1][width + 1][3];
            List<int[]> cells = new ArrayList<>();
            int[][] table = colours(w);
            for (int y = 0; y < height; y++) {
                for (int x = 0; x < width; x++) {
                    int[] letter = w.palette[w.picture.get(y).charAt(x) - 'a'];
                    int[] wanted = letter.clone();
                    if (how == 1) {
                        for (int band = 0; band < 3; band++) {
                            wanted[band] = Math.max(0, Math.min(400, wanted[band] + came[y][x][band]));
                        }
                    }
                    int code = matched(w, wanted)[0];
                    cells.add(new int[] {code, dist(table[code], letter)});
                    for (int band = 0; band < 3; band++) {
                        int left = wanted[band] - table[code][band];
                        int half = left < 0 ? -(-left / 2) : left / 2;
                        came[y][x + 1][band] += half;
                        came[y + 1][x][band] += left - half;
                    }
                }
            }
            return cells;
        }

        long call(int op, int[] x) {
            switch (op) {
                case 0: {
                    if (text.length() > 76) {
                        return -1;
                    }
                    for (int i = 3; i >= 0; i--) {
                        text += (char) (x[0] >> 8 * i & 255);
                    }
                    return text.length();
                }
                case 1: {
                    if (x[0] < 0 || x[0] > text.length()) {
                        return 0;
                    }
                    text = text.substring(0, x[0]);
                    return 1;
                }
                case 2: {
                    String s = text;
                    text = "";
                    int wrong = firstWrong(s, "patches", 80);
                    if (wrong >= 0) {
                        return -1 - wrong;
                    }
                    keepForUndo(w.copy());
                    for (int p = 0; p < s.length(); p += 10) {
                        act("m" + s.substring(p, p + 10));
                    }
                    return s.length() / 10;
                }
                case 3: {
                    String s = text;
                    text = "";
                    for (int p = 0; p < s.length(); p++) {
                        char low = p == 0 ? '0' : s.charAt(p - 1);
                        if (p > 8 || s.charAt(p) < low || s.charAt(p) > '8') {
                            return -1 - p;
                        }
                    }
                    if (!s.isEmpty() && s.length() < 9) {
                        return -1 - s.length();
                    }
                    if (!in(x[0], 0, 3)) {
                        return -1;
                    }
                    keepForUndo(w.copy());
                    int far = 0;
                    for (int a = 0; a < 9; a++) {
                        w.curves[x[0]][a] = s.isEmpty() ? a : s.charAt(a) - '0';
                        far += Math.abs(w.curves[x[0]][a] - a);
                    }
                    return far;
                }
                case 4: {
                    String s = text;
                    text = "";
                    int wrong = firstWrong(s, "link", 40);
                    if (wrong >= 0) {
                        return -1 - wrong;
                    }
                    Told told = new Told(s, w.limit, w.link);
                    if (longOf(s, told) > 500) {
                        return -200;
                    }
                    if (age(told) > 6) {
                        return -201;
                    }
                    keepForUndo(w.copy());
                    w.link = told;
                    return longOf(s, told);
                }
                case 5: {
                    String s = text;
                    text = "";
                    List<String> rows = new ArrayList<>();
                    String line = "";
                    for (int p = 0; p < s.length(); p++) {
                        char c = s.charAt(p);
                        int wide = rows.isEmpty() ? 8 : rows.get(0).length();
                        if (c == '/') {
                            if (line.isEmpty() || !rows.isEmpty() && line.length() != wide || rows.size() == 7) {
                                return -1 - p;
                            }
                            rows.add(line);
                            line = "";
                        } else if (c < 'a' || c > 'h' || line.length() == wide) {
                            return -1 - p;
                        } else {
                            line += c;
                        }
                    }
                    if (!s.isEmpty()) {
                        if (!rows.isEmpty() && line.length() < rows.get(0).length()) {
                            return -1 - s.length();
                        }
                        rows.add(line);
                    }
                    keepForUndo(w.copy());
                    w.picture = rows;
                    return rows.isEmpty() ? 0 : rows.size() * line.length();
                }
                case 6:
                    if (!in(x[0], 0, 80) || !in(x[1], 0, 2)) {
                        throw new NoSuchElementException();
                    }
                    return lightOf(w, x[0], x[1]);
                case 7:
                    if (!in(x[0], 0, 3) || !in(x[1], 0, 8)) {
                        throw new NoSuchElementException();
                    }
                    return w.curves[x[0]][x[1]];
                case 8: {
                    int kind = x[0];
                    if (!in(kind, 0, 3) || x[1] > 27) {
                        return -1;
                    }
                    if (kind < 3 && x[1] < 0) {
                        return -2;
                    }
                    int sum = 0;
                    int entry = 0;
                    int v = x[2];
                    for (int patch = 0; patch < 81; patch++) {
                        for (int band = 0; band < 3 && plain(patch); band++) {
                            int cut = kind == 0 ? (byte) v : kind == 1 ? (short) v : v;
                            cut = kind == 3 || entry >= x[1] ? 100 : Math.max(0, Math.min(100, cut));
                            w.lights.get(patch)[band] = cut;
                            sum += cut;
                            entry++;
                            v += x[3];
                        }
                    }
                    return kind == 3 ? -3 : sum;
                }
                case 9:
                case 10:
                case 11:
                case 12: {
                    World was = w.copy();
                    int answer = op == 9 ? doMeasure(x[0], x[1], x[2], x[3]) : op == 10 ? doForget(x[0])
                            : op == 11 ? doSet(x[0], x[1]) : doPaint(x[0], x[1], x[2], x[3]);
                    if (answer >= 0) {
                        keepForUndo(was);
                    }
                    return answer;
                }
                case 13: {
                    String s = text;
                    text = "";
                    int wrong = firstWrong(s, "day", 60);
                    if (wrong >= 0) {
                        return -1 - wrong;
                    }
                    World was = w.copy();
                    int done = 0;
                    int p = 0;
                    tell(0);
                    while (p < s.length()) {
                        int n = new int[] {11, 5, 3, 2, 2, 3, 8}["mflgtwe".indexOf(s.charAt(p))];
                        if (act(s.substring(p, p + n)) < 0) {
                            tell(1);
                            break;
                        }
                        done++;
                        p += n;
                    }
                    if (done > 0) {
                        keepForUndo(was);
                    }
                    return done;
                }
                case 14:
                    if (undoable.isEmpty()) {
                        return -1;
                    }
                    w = undoable.remove(undoable.size() - 1);
                    return undoable.size();
                default:
                    return question(op, x);
            }
        }

        long question(int op, int[] x) {
            switch (op) {
                case 15: {
                    if (!isCode(x[0])) {
                        return -1;
                    }
                    int[] c = colours(w)[x[0]];
                    tell(c[0], c[1], c[2]);
                    return total(x[0]);
                }
                case 16: {
                    if (!isCode(x[0]) || !in(x[1], 8, 32)) {
                        return -1;
                    }
                    int[] d = digits(x[0]);
                    limit(d, x[1]);
                    return code(d);
                }
                case 17: {
                    if (!isColour(x[0], x[1], x[2])) {
                        return -1;
                    }
                    int[] m = matched(w, new int[] {x[0], x[1], x[2]});
                    tell(m[1], m[2], m[3], m[4]);
                    return m[0];
                }
                case 18: {
                    if (!isColour(x[0], x[1], x[2])) {
                        return -1;
                    }
                    int[] wanted = {x[0], x[1], x[2]};
                    int t = theFold(wanted);
                    int[] f = foldOne(wanted, t);
                    tell(f[0], f[1], f[2], leastOpen(f));
                    return t;
                }
                case 19: {
                    if (!isColour(x[0], x[1], x[2])) {
                        return -1;
                    }
                    int[] wanted = {x[0], x[1], x[2]};
                    int code = throughOf(matched(w, foldOne(wanted, theFold(wanted)))[0]);
                    int[] c = colours(w)[code];
                    tell(c[0], c[1], c[2], dist(c, wanted));
                    return code;
                }
                case 20: {
                    if (!isCode(x[0]) || !isCode(x[1])) {
                        return -1;
                    }
                    int[] a = colours(w)[x[0]];
                    int[] b = colours(w)[x[1]];
                    long[] codes = new long[9];
                    int most = 0;
                    for (int k = 0; k <= 8; k++) {
                        int[] wanted = new int[3];
                        for (int band = 0; band < 3; band++) {
                            wanted[band] = a[band] + (b[band] - a[band]) * k / 8;
                        }
                        codes[k] = matched(w, wanted)[0];
                        for (int ink = 0; k > 0 && ink < 4; ink++) {
                            most = Math.max(most, Math.abs(digits((int) codes[k])[ink] - digits((int) codes[k - 1])[ink]));
                        }
                    }
                    tell(codes);
                    return most;
                }
                case 21: {
                    if (!isCode(x[0]) || !isCode(x[1])) {
                        return -1;
                    }
                    return wayOf(x[0], x[1], x[2]);
                }
                case 22: {
                    if (!in(x[0], 0, 3)) {
                        return -1;
                    }
                    return risesOf(w, x[0], true);
                }
                case 23: {
                    if (!in(x[0], 0, 2)) {
                        return -1;
                    }
                    TreeMap<Integer, Integer> first = new TreeMap<>();
                    int[][] table = colours(w);
                    for (int code : open()) {
                        first.putIfAbsent(table[code][x[0]], code);
                    }
                    tell(first.firstKey(), first.firstEntry().getValue(), first.lastKey(), first.lastEntry().getValue());
                    return first.lastKey() - first.firstKey();
                }
                case 24: {
                    Map<String, List<Integer>> by = new HashMap<>();
                    List<Integer> open = open();
                    int[][] table = colours(w);
                    for (int code : open) {
                        by.computeIfAbsent(Arrays.toString(table[code]), k -> new ArrayList<>()).add(code);
                    }
                    List<Integer> best = null;
                    for (List<Integer> codes : by.values()) {
                        if (best == null || codes.size() > best.size()
                                || codes.size() == best.size() && codes.get(0) < best.get(0)) {
                            best = codes;
                        }
                    }
                    tell(best.size(), best.get(0), open.size());
                    return by.size();
                }
                case 25: {
                    if (!isColour(x[0], x[1], x[2])) {
                        return -1;
                    }
                    int near = 0;
                    List<Integer> open = open();
                    int[][] table = colours(w);
                    for (int code : open) {
                        if (dist(table[code], new int[] {x[0], x[1], x[2]}) <= x[3]) {
                            near++;
                        }
                    }
                    int g = open.size();
                    while (near % g != 0 || open.size() % g != 0) {
                        g--;
                    }
                    tell(near / g, near == 0 ? 1 : open.size() / g);
                    return 0;
                }
                case 26:
                    return isCode(x[0]) ? throughOf(x[0]) : -1;
                case 27: {
                    if (!isCode(x[0])) {
                        return -1;
                    }
                    List<Integer> from = new ArrayList<>();
                    for (int code : ALL) {
                        if (throughOf(code) == x[0]) {
                            from.add(code);
                        }
                    }
                    if (from.isEmpty()) {
                        tell();
                    } else {
                        tell(from.get(0), from.get(from.size() - 1));
                    }
                    return from.size();
                }
                case 28: {
                    if (!isCode(x[0])) {
                        return -1;
                    }
                    List<Integer> seen = new ArrayList<>();
                    int code = x[0];
                    while (!seen.contains(code)) {
                        seen.add(code);
                        code = throughOf(code);
                    }
                    int at = seen.indexOf(code);
                    tell(seen.size() - at, seen.subList(at, seen.size()).stream().min(Comparator.naturalOrder()).get());
                    return at;
                }
                case 29: {
                    if (!in(x[0], 0, 1)) {
                        return -1;
                    }
                    if (w.picture.isEmpty()) {
                        return -2;
                    }
                    long[] sums = new long[5];
                    Set<Integer> codes = new HashSet<>();
                    for (int[] cell : press(x[0])) {
                        for (int ink = 0; ink < 4; ink++) {
                            sums[ink] += digits(cell[0])[ink];
                        }
                        sums[4] += cell[1];
                        codes.add(cell[0]);
                    }
                    tell(sums);
                    return codes.size();
                }
                case 30: {
                    if (!in(x[0], 0, 1)) {
                        return -1;
                    }
                    if (w.picture.isEmpty()) {
                        return -2;
                    }
                    List<int[]> cells = press(x[0]);
                    return in(x[1], 0, cells.size() - 1) ? cells.get(x[1])[0] : -1;
                }
                case 31: {
                    if (!in(x[0], 0, 3) || !in(x[1], -8, 8) || !in(x[2], -8, 8)) {
                        return -1;
                    }
                    if (w.picture.isEmpty()) {
                        return -2;
                    }
                    return slipOf(x[0], x[1], x[2]);
                }
                default:
                    return question2(op, x);
            }
        }

        int wayOf(int from, int to, int d) {
            if (!isOpen(from) || !isOpen(to)) {
                return -2;
            }
            int[][] table = colours(w);
            Map<Integer, Integer> far = new HashMap<>();
            ArrayDeque<Integer> queue = new ArrayDeque<>();
            far.put(to, 0);
            queue.add(to);
            while (!queue.isEmpty()) {
                int code = queue.remove();
                for (int next : neighbours(code)) {
                    if (isOpen(next) && !far.containsKey(next) && dist(table[code], table[next]) <= d) {
                        far.put(next, far.get(code) + 1);
                        queue.add(next);
                    }
                }
            }
            if (!far.containsKey(from)) {
                return -2;
            }
            tell();
            int first = 9999;
            for (int next : neighbours(from)) {
                if (far.containsKey(next) && far.get(next) == far.get(from) - 1 && dist(table[from], table[next]) <= d) {
                    first = Math.min(first, next);
                }
            }
            if (from != to) {
                tell(first);
            }
            return far.get(from);
        }

        static List<Integer> neighbours(int code) {
            List<Integer> next = new ArrayList<>();
            for (int by : new int[] {1, 10, 100, 1000}) {
                if (isCode(code + by) && code / by % 10 < 8) {
                    next.add(code + by);
                }
                if (code / by % 10 > 0) {
                    next.add(code - by);
                }
            }
            return next;
        }

        int risesOf(World of, int ink, boolean tells) {
            int step = new int[] {27, 9, 3, 1}[ink];
            int count = 0;
            for (int patch = 0; patch < 81; patch++) {
                for (int band = 0; band < 3; band++) {
                    if (base(patch, 3, 4).charAt(ink) < '2' && lightOf(of, patch + step, band) > lightOf(of, patch, band)) {
                        if (count == 0 && tells) {
                            tell(patch, band);
                        }
                        count++;
                    }
                }
            }
            if (count == 0 && tells) {
                tell();
            }
            return count;
        }

        int slipOf(int ink, int x, int y) {
            List<int[]> cells = press(0);
            int height = w.picture.size();
            int width = w.picture.get(0).length();
            int others = 0;
            long far = 0;
            for (int at = 0; at < cells.size(); at++) {
                int column = at % width - x;
                int line = at / width - y;
                int[] d = digits(cells.get(at)[0]);
                d[ink] = in(column, 0, width - 1) && in(line, 0, height - 1)
                        ? digits(cells.get(line * width + column)[0])[ink] : 0;
                if (code(d) != cells.get(at)[0]) {
                    others++;
                }
                far += dist(colours(w)[code(d)], colours(w)[cells.get(at)[0]]);
            }
            tell(far);
            return others;
        }

        long question2(int op, int[] x) {
            switch (op) {
                case 32: {
                    if (!in(x[0], 0, 8)) {
                        return -1;
                    }
                    int[][] table = colours(w);
                    List<Integer> greys = new ArrayList<>();
                    for (int code : open()) {
                        int[] c = table[code].clone();
                        Arrays.sort(c);
                        if (code % 10 == x[0] && c[2] - c[0] <= x[1]) {
                            greys.add(code);
                        }
                    }
                    if (greys.isEmpty()) {
                        tell();
                        return 0;
                    }
                    Comparator<Integer> sum = Comparator.comparing(c -> Arrays.stream(table[c]).sum());
                    greys.sort(sum.thenComparing(c -> c));
                    int dark = greys.get(0);
                    greys.sort(sum.reversed().thenComparing(c -> c));
                    int lit = greys.get(0);
                    tell(dark, Arrays.stream(table[dark]).sum(), lit, Arrays.stream(table[lit]).sum());
                    return greys.size();
                }
                case 33: {
                    if (!in(x[0], 0, 2) || !isCode(x[1])) {
                        return -1;
                    }
                    int[][] table = colours(w);
                    List<Integer> near = new ArrayList<>();
                    for (int code : open()) {
                        if (dist(table[code], table[x[1]]) <= x[2]) {
                            near.add(code);
                        }
                    }
                    if (near.isEmpty()) {
                        return -2;
                    }
                    Comparator<Integer> black = Comparator.comparing(c -> c % 10);
                    Comparator<Integer> total = Comparator.comparing(c -> total(c));
                    Comparator<Integer> by = x[0] == 0 ? black.reversed().thenComparing(total)
                            : x[0] == 1 ? total.thenComparing(black.reversed()) : black.thenComparing(total);
                    near.sort(by.thenComparing(c -> c));
                    tell(near.size());
                    return near.get(0);
                }
                case 34: {
                    int best = -1;
                    int most = -1;
                    for (int patch : w.measured.stream().sorted().toList()) {
                        int sum = 0;
                        for (int band = 0; band < 3; band++) {
                            int off = w.lights.get(patch)[band] - reckoned(w, patch, band);
                            sum += w.weights[band] * off * off;
                        }
                        if (sum > most) {
                            most = sum;
                            best = patch;
                        }
                    }
                    if (best < 0) {
                        return -2;
                    }
                    tell(most);
                    return best;
                }
                case 35: {
                    int[] counts = new int[81];
                    for (int code : open()) {
                        for (int patch : PARTS.get(code).keySet()) {
                            counts[patch]++;
                        }
                    }
                    int best = -1;
                    for (int patch = 80; patch >= 0; patch--) {
                        if (!plain(patch) && !w.measured.contains(patch) && (best < 0 || counts[patch] >= counts[best])) {
                            best = patch;
                        }
                    }
                    if (best < 0) {
                        return -2;
                    }
                    tell(counts[best]);
                    return best;
                }
                case 36: {
                    if (!in(x[0], 0, 1)) {
                        return -1;
                    }
                    if (kept[x[0]] == null) {
                        return -2;
                    }
                    int[][] now = colours(w);
                    int[][] then = colours(kept[x[0]]);
                    int count = 0;
                    int far = -1;
                    int least = -1;
                    for (int code : open()) {
                        if (!Arrays.equals(now[code], then[code])) {
                            count++;
                            if (dist(now[code], then[code]) > far) {
                                far = dist(now[code], then[code]);
                                least = code;
                            }
                        }
                    }
                    if (count == 0) {
                        tell();
                    } else {
                        tell(far, least);
                    }
                    return count;
                }
                case 37: {
                    if (!in(x[0], 0, 1) || !isCode(x[1])) {
                        return -1;
                    }
                    if (kept[x[0]] == null) {
                        return -2;
                    }
                    int[] m = matched(w, colours(kept[x[0]])[x[1]]);
                    tell(m[1]);
                    return m[0];
                }
                case 38: {
                    if (!in(x[1], 1, 40)) {
                        return -1;
                    }
                    World then = w.copy();
                    int[] r = {x[0]};
                    for (int i = 0; i < x[1]; i++) {
                        int ink = draw(r, 4);
                        int level = draw(r, 2) + 1;
                        int band = draw(r, 3);
                        int more = draw(r, 21) - 10;
                        int[] light = then.lights.get(level * new int[] {27, 9, 3, 1}[ink]);
                        light[band] = Math.max(0, Math.min(100, light[band] + more));
                    }
                    int sum = 0;
                    for (int ink = 0; ink < 4; ink++) {
                        sum += risesOf(then, ink, false);
                    }
                    int[] m = matched(then, new int[] {200, 200, 200});
                    tell(m[0], m[1]);
                    return sum;
                }
                case 39:
                    if (!in(x[0], 0, 1)) {
                        return 0;
                    }
                    kept[x[0]] = w.copy();
                    return 1;
                case 40:
                    if (!in(x[0], 0, 1) || kept[x[0]] == null) {
                        return 0;
                    }
                    w = kept[x[0]].copy();
                    undoable.clear();
                    return 1;
                case 41:
                    return countOf(x[0]);
                default:
                    if (!in(x[0], 0, row.size() - 1)) {
                        throw new NoSuchElementException();
                    }
                    return row.get(x[0]);
            }
        }

        static int draw(int[] r, int n) {
            r[0] = r[0] * 1103515245 + 12345;
            return (int) (((r[0] & 0xffffffffL) / 65536) % n);
        }

        long countOf(int what) {
            long[] counts = {w.measured.size(), w.limit, w.grey, w.slack, w.top, longOf(w.link.text, w.link), age(w.link),
                w.picture.isEmpty() ? 0 : w.picture.get(0).length(), w.picture.size(), undoable.size(), row.size(),
                text.length(), w.weights[0], w.weights[1], w.weights[2]};
            return in(what, 0, 14) ? counts[what] : -1;
        }
    }

    private static final String[] NAMES = {"sign", "end", "patches", "curve", "link", "picture", "light", "bent", "sheet",
        "measure", "forgets", "sets", "paints", "day", "undo", "colour", "limited", "match", "fold", "prints", "ramp", "way",
        "rises", "reach", "spread", "odds", "through", "sources", "rounds", "press", "cell", "slips", "greys", "replaces",
        "doubt", "asks", "other", "carry", "drifts", "keep", "again", "count", "row"};

    private static long ask(InkFolds it, int op, int[] x) {
        switch (op) {
            case 0: return it.sign(x[0]);
            case 1: return it.end(x[0]) ? 1 : 0;
            case 2: return it.patches();
            case 3: return it.curve(x[0]);
            case 4: return it.link();
            case 5: return it.picture();
            case 6: return it.light(x[0], x[1]);
            case 7: return it.bent(x[0], x[1]);
            case 8: return it.sheet(x[0], x[1], x[2], x[3]);
            case 9: return it.measure(x[0], x[1], x[2], x[3]);
            case 10: return it.forgets(x[0]);
            case 11: return it.sets(x[0], x[1]);
            case 12: return it.paints(x[0], x[1], x[2], x[3]);
            case 13: return it.day();
            case 14: return it.undo();
            case 15: return it.colour(x[0]);
            case 16: return it.limited(x[0], x[1]);
            case 17: return it.match(x[0], x[1], x[2]);
            case 18: return it.fold(x[0], x[1], x[2]);
            case 19: return it.prints(x[0], x[1], x[2]);
            case 20: return it.ramp(x[0], x[1]);
            case 21: return it.way(x[0], x[1], x[2]);
            case 22: return it.rises(x[0]);
            case 23: return it.reach(x[0]);
            case 24: return it.spread();
            case 25: return it.odds(x[0], x[1], x[2], x[3]);
            case 26: return it.through(x[0]);
            case 27: return it.sources(x[0]);
            case 28: return it.rounds(x[0]);
            case 29: return it.press(x[0]);
            case 30: return it.cell(x[0], x[1]);
            case 31: return it.slips(x[0], x[1], x[2]);
            case 32: return it.greys(x[0], x[1]);
            case 33: return it.replaces(x[0], x[1], x[2]);
            case 34: return it.doubt();
            case 35: return it.asks();
            case 36: return it.other(x[0]);
            case 37: return it.carry(x[0], x[1]);
            case 38: return it.drifts(x[0], x[1]);
            case 39: return it.keep(x[0]) ? 1 : 0;
            case 40: return it.again(x[0]) ? 1 : 0;
            case 41: return it.count(x[0]);
            default: return it.row(x[0]);
        }
    }

    private static final long THROWN = Long.MIN_VALUE;

    private static Random random;
    private static InkFolds it;
    private static Model model;
    private static List<String> told;
    private static int wrong = 0;
    private static final int[] REFUSED = new int[NAMES.length];
    private static final int[] DONE = new int[NAMES.length];

    private static long both(int op, int... x) {
        String call = NAMES[op] + Arrays.toString(x);
        long got;
        long due;
        try {
            got = ask(it, op, x);
        } catch (NoSuchElementException e) {
            got = THROWN;
        }
        try {
            due = model.call(op, x);
        } catch (NoSuchElementException e) {
            due = THROWN;
        }
        told.add(call + " " + due);
        if (due < 0) {
            REFUSED[op]++;
        } else {
            DONE[op]++;
        }
        boolean same = got == due;
        StringBuilder others = new StringBuilder();
        for (int what = 0; what < 15; what++) {
            if (it.count(what) != model.countOf(what)) {
                same = false;
                others.append(" count(" + what + ") " + it.count(what) + " due " + model.countOf(what));
            }
        }
        for (int i = 0; i < Math.min(it.count(10), model.row.size()); i++) {
            if (it.row(i) != model.row.get(i)) {
                same = false;
                others.append(" row(" + i + ") " + it.row(i) + " due " + model.row.get(i));
            }
        }
        if (!same) {
            wrong++;
            System.out.println(call + " answered " + got + ", due is " + due + others + " behind:");
            System.out.println("  " + String.join("; ", told.subList(Math.max(0, told.size() - 40), told.size())));
        }
        return due;
    }

    private static int any(int low, int high) {
        return low + random.nextInt(high - low + 1);
    }

    /** One in ten lies outside. */
    private static int about(int low, int high) {
        if (random.nextInt(10) > 0) {
            return any(low, high);
        }
        int[] outside = {low - 1, high + 1, Integer.MIN_VALUE, Integer.MAX_VALUE, random.nextInt()};
        return outside[random.nextInt(5)];
    }

    private static int anyCode() {
        if (random.nextInt(12) == 0) {
            return about(0, 8888);
        }
        int[] d = new int[4];
        for (int i = 0; i < 4; i++) {
            d[i] = any(0, 8);
        }
        return Model.code(d);
    }

    private static int number() {
        return random.nextInt(40) == 0 ? about(0, 400) : any(0, 400);
    }

    private static int within() {
        int[] ds = {any(-1, 1), any(0, 300), any(0, 3000), any(0, 40000), random.nextInt()};
        return ds[random.nextInt(5)];
    }

    private static String pick(String from) {
        int i = random.nextInt(from.length());
        return from.substring(i, i + 1);
    }

    private static String stepsText(int depth, int most) {
        StringBuilder s = new StringBuilder();
        int steps = any(0, most);
        for (int i = 0; i < steps; i++) {
            String ink = pick("cmyk");
            String d = pick("012345678");
            String c = pick(depth < 3 ? "lvpguaswhxnoijnoij" : "lvpguaswhx");
            s.append(c);
            switch (c) {
                case "l", "v", "p" -> { }
                case "g" -> s.append(pick("01234"));
                case "u" -> s.append(d);
                case "a", "s", "w" -> s.append(ink).append(d);
                case "h" -> s.append(ink);
                case "x" -> s.append(ink).append(pick("cmyk"));
                default -> {
                    s.append(c.equals("n") ? pick("0123456789") : ink);
                    s.append(c.equals("i") ? d : c.equals("j") ? pick("cmyk") : "");
                    s.append("(").append(stepsText(depth + 1, 3)).append(")");
                }
            }
        }
        return s.toString();
    }

    private static String patchText() {
        return pick("012") + pick("012") + pick("012") + pick("012") + two() + two() + two();
    }

    private static String two() {
        return pick("0123456789") + pick("0123456789");
    }

    private static String dayText() {
        StringBuilder s = new StringBuilder();
        int acts = any(0, 8);
        for (int i = 0; i < acts; i++) {
            String c = pick("mmflgtwe");
            s.append(c);
            switch (c) {
                case "m" -> s.append(patchText());
                case "f" -> {
                    List<Integer> there = new ArrayList<>(model.w.measured);
                    s.append(there.isEmpty() ? patchText().substring(0, 4)
                            : Model.base(there.get(random.nextInt(there.size())), 3, 4));
                }
                case "l" -> s.append(pick("0123")).append(pick("0123456789"));
                case "g" -> s.append(pick("012345"));
                case "t" -> s.append(pick("0123456789"));
                case "w" -> s.append(pick("012")).append(pick("0123456789"));
                default -> s.append(pick("abcdefgh")).append(two()).append(two()).append(two());
            }
        }
        return s.toString();
    }

    private static String pictureText() {
        int width = any(1, random.nextInt(6) == 0 ? 9 : 4);
        int height = any(1, random.nextInt(6) == 0 ? 9 : 4);
        StringBuilder s = new StringBuilder();
        for (int y = 0; y < height; y++) {
            s.append(y > 0 ? "/" : "");
            for (int x = 0; x < width; x++) {
                s.append(pick("abcdefgh"));
            }
        }
        return random.nextInt(12) == 0 ? "" : s.toString();
    }

    private static String curveText() {
        char[] s = new char[9];
        for (int i = 0; i < 9; i++) {
            s[i] = (char) ('0' + any(0, 8));
        }
        Arrays.sort(s);
        return random.nextInt(8) == 0 ? "" : new String(s);
    }

    /** Now and then a sign is changed, put in or lost. */
    private static String spoiled(String s) {
        if (random.nextInt(4) > 0) {
            return s;
        }
        int p = random.nextInt(s.length() + 1);
        String sign = random.nextInt(5) == 0 ? String.valueOf((char) random.nextInt(256)) : pick("abch()019mykpnw/28");
        switch (random.nextInt(4)) {
            case 0:
                return s.substring(0, p) + sign + s.substring(p);
            case 1:
                return s.substring(0, p) + s.substring(Math.min(s.length(), p + 1));
            case 2:
                return s.substring(0, p) + sign + s.substring(Math.min(s.length(), p + 1));
            default:
                return s.substring(0, p);
        }
    }

    private static void sendText(String s) {
        String full = s.length() > 80 ? s.substring(0, 80) : s;
        while (full.length() % 4 != 0) {
            full += (char) random.nextInt(256);
        }
        for (int p = 0; p < full.length(); p += 4) {
            both(0, full.charAt(p) << 24 | full.charAt(p + 1) << 16 | full.charAt(p + 2) << 8 | full.charAt(p + 3));
        }
        both(1, Math.min(80, s.length()));
    }

    private static void sendAndRead(int op) {
        if (random.nextInt(30) > 0) {
            both(1, 0);
        }
        switch (op) {
            case 2: {
                StringBuilder s = new StringBuilder();
                int patches = any(0, random.nextInt(5) == 0 ? 9 : 3);
                for (int i = 0; i < patches; i++) {
                    s.append(patchText());
                }
                sendText(spoiled(s.toString()));
                both(2);
                break;
            }
            case 3:
                sendText(spoiled(curveText()));
                both(3, about(0, 3));
                break;
            case 4:
                sendText(spoiled(stepsText(0, any(0, 5))));
                both(4);
                break;
            case 5:
                sendText(spoiled(pictureText()));
                both(5);
                break;
            default:
                sendText(spoiled(dayText()));
                both(13);
                break;
        }
    }

    private static void step() {
        int op = random.nextInt(NAMES.length);
        switch (op) {
            case 2, 3, 4, 5, 13 -> sendAndRead(op);
            case 0 -> both(0, random.nextInt());
            case 1 -> both(1, about(0, 80));
            case 6 -> both(6, about(0, 80), about(0, 2));
            case 7 -> both(7, about(0, 3), about(0, 8));
            case 8 -> {
                if (random.nextInt(3) == 0) {
                    both(8, about(0, 3), about(0, 27), random.nextInt(3) == 0 ? random.nextInt() : any(0, 100),
                            random.nextInt(3) == 0 ? random.nextInt() : any(-5, 5));
                }
            }
            case 9 -> both(9, about(0, 80), about(0, 100), about(0, 100), about(0, 100));
            case 10 -> both(10, about(0, 80));
            case 11 -> {
                int[][] ranges = {{8, 32}, {0, 4}, {0, 99999}, {0, 8}, {1, 9}, {1, 9}, {1, 9}};
                int what = any(0, 6);
                int high = what == 2 && random.nextInt(3) > 0 ? 3000 : ranges[what][1];
                both(11, random.nextInt(20) == 0 ? about(0, 6) : what, about(ranges[what][0], high));
            }
            case 12 -> both(12, about(0, 7), number(), number(), number());
            case 14 -> both(14);
            case 15, 26, 27, 28 -> both(op, anyCode());
            case 16 -> both(16, anyCode(), about(8, 32));
            case 17, 18, 19 -> both(op, number(), number(), number());
            case 20 -> both(20, anyCode(), anyCode());
            case 21 -> {
                int from = anyCode();
                both(21, from, random.nextInt(8) == 0 ? from : anyCode(), within());
            }
            case 22 -> both(22, about(0, 3));
            case 23 -> both(23, about(0, 2));
            case 24, 34, 35 -> both(op);
            case 25 -> both(25, number(), number(), number(), within());
            case 29 -> both(29, about(0, 1));
            case 30 -> both(30, about(0, 1), about(0, Math.max(1, it.count(7) * it.count(8) - 1)));
            case 31 -> both(31, about(0, 3), any(0, 1) == 0 ? any(-2, 2) : about(-8, 8), any(0, 1) == 0 ? any(-2, 2) : about(-8, 8));
            case 32 -> both(32, about(0, 8), any(0, 1) == 0 ? any(-1, 60) : within());
            case 33 -> both(33, about(0, 2), anyCode(), within());
            case 36 -> both(36, about(0, 1));
            case 37 -> both(37, about(0, 1), anyCode());
            case 38 -> both(38, random.nextInt(), about(1, 40));
            case 39 -> both(39, about(0, 1));
            case 40 -> {
                if (random.nextInt(3) == 0) {
                    both(40, about(0, 1));
                }
            }
            case 41 -> both(41, about(0, 14));
            default -> both(42, about(0, 4));
        }
    }

    public static void main(String[] args) {
        int runs = args.length > 0 ? Integer.parseInt(args[0]) : RUNS;
        long first = args.length > 1 ? Long.parseLong(args[1]) : 1;
        for (long seed = first; seed < first + runs && wrong == 0; seed++) {
            random = new Random(seed);
            it = new InkFolds();
            model = new Model();
            told = new ArrayList<>();
            if (random.nextInt(3) == 0) {
                both(11, 0, any(8, 14));
            }
            for (int i = 0; i < CALLS && wrong == 0; i++) {
                step();
            }
            if (wrong > 0) {
                System.out.println("seed " + seed);
            }
        }
        for (int op = 0; op < NAMES.length; op++) {
            if (DONE[op] == 0 && runs == RUNS) {
                wrong++;
                System.out.println(NAMES[op] + " was never done");
            }
        }
        if (args.length > 0) {
            for (int op = 0; op < NAMES.length; op++) {
                System.out.println(NAMES[op] + " " + DONE[op] + " done, " + REFUSED[op] + " refused");
            }
        }
        System.out.println(wrong == 0 ? "all answers are as the model's" : wrong + " answers are not as due");
        if (wrong != 0) {
            System.exit(1);
        }
    }
}
