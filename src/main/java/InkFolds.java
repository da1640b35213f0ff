import java.util.Arrays;
import java.util.NoSuchElementException;

/**
 * Four inks on paper and the colours that come of them; what it does is told in ../shared/DOC.md.
 *
 * <p>Inside, four AMOUNTS are a "place" 0 .. 6560 (the CODE read to the base 9): places have the
 * order of CODES, and no gaps. All rows are made in constructors, as a run's room is small.
 */
public final class InkFolds {
    public static final int NONE = -1;

    private static final int THERE_IS_NONE = -2;
    private static final int INKS = 4;
    private static final int BANDS = 3;
    private static final int AMOUNTS = 9;
    private static final int MOST_AMOUNT = 8;
    private static final int PATCHES = 81;
    private static final int PLACES = 6561;
    private static final int MOST_LIGHT = 100;
    private static final int MOST_NUMBER = 400;
    private static final int[] CODE_WORTH = {1000, 100, 10, 1};
    private static final int[] PLACE_WORTH = {729, 81, 9, 1};
    private static final int[] PATCH_WORTH = {27, 9, 3, 1};
    private static final int[] PLAIN_PATCHES = {0, 1, 2, 3, 6, 9, 18, 27, 54};

    /** Settings have the numbers that sets() gives them. */
    private static final int LIMIT = 0;
    private static final int GREY = 1;
    private static final int SLACK = 2;
    private static final int TOP = 3;
    private static final int WEIGHT = 4;
    private static final int SETTINGS = 7;
    private static final int[] LEAST_SETTING = {8, 0, 0, 0, 1, 1, 1};
    private static final int[] MOST_SETTING = {32, 4, 99999, 8, 9, 9, 9};
    private static final int[] FIRST_SETTING = {32, 2, 0, 8, 1, 1, 1};

    /** Above each DISTANCE, and above each rank of a MATCH. */
    private static final int FAR = 2147483647;
    private static final long LAST_RANK = 9223372036854775807L;

    private static final int LETTERS = 8;
    private static final int MOST_SIDE = 8;
    private static final int MOST_CELLS = 64;

    private static final int MOST_SIGNS = 80;
    private static final int MOST_LINK_SIGNS = 40;
    private static final int MOST_DAY_SIGNS = 60;
    private static final int MOST_BRACKETS = 3;
    private static final int MOST_LONG = 500;
    private static final int MOST_AGE = 6;
    private static final int TOO_LONG = -200;
    private static final int TOO_OLD = -201;
    /** Far above what AGE and the depth of brackets leave (24). */
    private static final int MOST_DEPTH = 40;

    private static final int TELLS_PATCHES = 0;
    private static final int TELLS_LINK = 1;
    private static final int TELLS_DAY = 2;
    private static final String PATCH_FORM = "2222999999";

    private static final int MISSING = 3;
    private static final int IS_MISSING = -3;
    private static final int MOST_KEPT = 2;
    private static final int MOST_UNDONE = 10;
    private static final int MOST_DAYS = 40;

    private final Text text = new Text();
    private final Row row = new Row();
    private final State now = new State();
    private final History history = new History();
    private final State[] kept = new State[MOST_KEPT];
    private final boolean[] isKept = new boolean[MOST_KEPT];
    private final Chart chart = new Chart();
    private final State trial = new State();
    private final Chart trialChart = new Chart();
    private final Matcher matcher = new Matcher();
    private final Inks inks = new Inks();
    private final Press printed = new Press();
    private final int[] marks = new int[PLACES];
    private final int[] chain = new int[PLACES];
    private final int[] tally = new int[PLACES];

    public InkFolds() {
        for (int i = 0; i < MOST_KEPT; i++) {
            kept[i] = new State();
        }
    }

    // ---- texts

    public int sign(int v) {
        if (text.count + 4 > MOST_SIGNS) {
            return NONE;
        }
        for (int shift = 24; shift >= 0; shift -= 8) {
            text.append((v >>> shift) & 255);
        }
        return text.count;
    }

    public boolean end(int n) {
        if (n < 0 || n > text.count) {
            return false;
        }
        text.count = n;
        return true;
    }

    public int patches() {
        int wrong = text.wrongAt(TELLS_PATCHES, MOST_SIGNS);
        if (wrong >= 0) {
            return refusedText(wrong);
        }
        history.draft(now);
        int told = 0;
        for (int p = 0; p + PATCH_FORM.length() <= text.count; p += PATCH_FORM.length()) {
            tellPatchAt(p);
            told++;
        }
        text.count = 0;
        return settled(told);
    }

    public int curve(int ink) {
        int wrong = text.curveWrongAt();
        if (wrong >= 0) {
            return refusedText(wrong);
        }
        if (!isInk(ink)) {
            text.count = 0;
            return NONE;
        }
        history.draft(now);
        for (int amount = 0; amount < AMOUNTS; amount++) {
            now.curves[ink * AMOUNTS + amount] = text.count == 0 ? amount : text.digit(amount);
        }
        text.count = 0;
        return settled(now.bentFromStraight(ink));
    }

    public int link() {
        int wrong = text.wrongAt(TELLS_LINK, MOST_LINK_SIGNS);
        if (wrong >= 0) {
            return refusedText(wrong);
        }
        Link told = Link.read(text, now.link, now.settings[LIMIT]);
        text.count = 0;
        if (told.length > MOST_LONG) {
            return TOO_LONG;
        }
        if (told.age > MOST_AGE) {
            return TOO_OLD;
        }
        history.draft(now);
        now.link = told;
        return settled(told.length);
    }

    public int picture() {
        int wrong = text.pictureWrongAt();
        if (wrong >= 0) {
            return refusedText(wrong);
        }
        history.draft(now);
        now.hang(text);
        text.count = 0;
        return settled(now.cellCount());
    }

    public int light(int patch, int band) throws NoSuchElementException {
        if (!isPatch(patch) || !isBand(band)) {
            throw new NoSuchElementException();
        }
        return now.lightOf(patch, band);
    }

    public int bent(int ink, int amount) throws NoSuchElementException {
        if (!isInk(ink) || !isIn(amount, 0, MOST_AMOUNT)) {
            throw new NoSuchElementException();
        }
        return now.curves[ink * AMOUNTS + amount];
    }

    public int sheet(int kind, int n, int f, int step) {
        if (!isIn(kind, 0, MISSING) || n > PLAIN_PATCHES.length * BANDS) {
            return NONE;
        }
        if (n < 0 && kind != MISSING) {
            return THERE_IS_NONE;
        }
        int sum = 0;
        for (int entry = 0; entry < PLAIN_PATCHES.length * BANDS; entry++) {
            int light = MOST_LIGHT;
            if (kind != MISSING && entry < n) {
                light = put(entryOf(kind, f + entry * step), MOST_LIGHT);
            }
            now.told[PLAIN_PATCHES[entry / BANDS] * BANDS + entry % BANDS] = light;
            sum += light;
        }
        return kind == MISSING ? IS_MISSING : sum;
    }

    private static int entryOf(int kind, int v) {
        if (kind == 0) {
            return (byte) v;
        }
        return kind == 1 ? (short) v : v;
    }

    private int refusedText(int wrong) {
        text.count = 0;
        return -1 - wrong;
    }

    private int tellPatchAt(int p) {
        return now.tellPatch(text.patch(p), text.two(p + 4), text.two(p + 6), text.two(p + 8));
    }

    // ---- changes

    public int measure(int patch, int r, int q, int b) {
        history.draft(now);
        return settled(now.tellPatch(patch, r, q, b));
    }

    public int forgets(int patch) {
        history.draft(now);
        return settled(now.dropPatch(patch));
    }

    public int sets(int what, int v) {
        history.draft(now);
        return settled(now.change(what, v));
    }

    public int paints(int letter, int r, int q, int b) {
        history.draft(now);
        return settled(now.paintLetter(letter, r, q, b));
    }

    public int day() {
        int wrong = text.wrongAt(TELLS_DAY, MOST_DAY_SIGNS);
        if (wrong >= 0) {
            return refusedText(wrong);
        }
        history.draft(now);
        int done = 0;
        boolean stopped = false;
        for (int p = 0; p < text.count && !stopped; p++) {
            if (doAct(p) < 0) {
                stopped = true;
            } else {
                done++;
            }
            p += Math.max(0, Text.actForm(text.at(p)).length() - 1);
        }
        text.count = 0;
        if (done > 0) {
            history.settle();
        }
        row.clear();
        row.append(stopped ? 1 : 0);
        return done;
    }

    public int undo() {
        if (history.count == 0) {
            return NONE;
        }
        history.bringBack(now);
        return history.count;
    }

    private int doAct(int p) {
        switch (text.at(p)) {
            case 'm':
                return tellPatchAt(p + 1);
            case 'f':
                return now.dropPatch(text.patch(p + 1));
            case 'l':
                return now.change(LIMIT, text.two(p + 1));
            case 'g':
                return now.change(GREY, text.digit(p + 1));
            case 't':
                return now.change(TOP, text.digit(p + 1));
            case 'w':
                return now.change(WEIGHT + text.digit(p + 1), text.digit(p + 2));
            case 'e':
                return now.paintLetter(text.at(p + 1) - 'a',
                        4 * text.two(p + 2), 4 * text.two(p + 4), 4 * text.two(p + 6));
            default:
                return NONE;
        }
    }

    /** The draft of a change becomes one that can be undone, if the change was done. */
    private int settled(int answer) {
        if (answer >= 0) {
            history.settle();
        }
        return answer;
    }

    // ---- colours

    public int colour(int code) {
        int place = placeOf(code);
        if (place < 0) {
            return NONE;
        }
        refresh();
        row.clear();
        tellColour(place);
        return totalOf(place);
    }

    public int limited(int code, int n) {
        int place = placeOf(code);
        if (place < 0 || !isIn(n, LEAST_SETTING[LIMIT], MOST_SETTING[LIMIT])) {
            return NONE;
        }
        inks.load(place);
        inks.limitTo(n);
        return codeOf(inks.place());
    }

    public int match(int r, int q, int b) {
        if (!isColour(r, q, b)) {
            return NONE;
        }
        refresh();
        int place = matcher.find(now, chart, r, q, b);
        row.clear();
        row.append(matcher.distance);
        row.append(matcher.low);
        row.append(matcher.high);
        row.append(matcher.fits);
        return codeOf(place);
    }

    public int fold(int r, int q, int b) {
        if (!isColour(r, q, b)) {
            return NONE;
        }
        refresh();
        int t = foldOf(r, q, b);
        int middle = (r + q + b) / BANDS;
        row.clear();
        row.append(folded(r, middle, t));
        row.append(folded(q, middle, t));
        row.append(folded(b, middle, t));
        row.append(leastFolded(r, q, b, t));
        return t;
    }

    public int prints(int r, int q, int b) {
        if (!isColour(r, q, b)) {
            return NONE;
        }
        refresh();
        int t = foldOf(r, q, b);
        int middle = (r + q + b) / BANDS;
        int matched = matcher.find(now, chart,
                folded(r, middle, t), folded(q, middle, t), folded(b, middle, t));
        int place = linked(matched);
        row.clear();
        tellColour(place);
        row.append(chart.distanceTo(now, place, r, q, b));
        return codeOf(place);
    }

    public int ramp(int from, int to) {
        int first = placeOf(from);
        int last = placeOf(to);
        if (first < 0 || last < 0) {
            return NONE;
        }
        refresh();
        row.clear();
        int most = 0;
        int before = NONE;
        for (int k = 0; k <= 8; k++) {
            int place = matcher.find(now, chart, chart.onTheWay(first, last, 0, k),
                    chart.onTheWay(first, last, 1, k), chart.onTheWay(first, last, 2, k));
            if (before >= 0) {
                most = Math.max(most, greatestChange(before, place));
            }
            row.append(codeOf(place));
            before = place;
        }
        return most;
    }

    public int way(int from, int to, int d) {
        int first = placeOf(from);
        int last = placeOf(to);
        if (first < 0 || last < 0) {
            return NONE;
        }
        if (!now.isOpen(first) || !now.isOpen(last)) {
            return THERE_IS_NONE;
        }
        refresh();
        markChangesTo(last, d);
        if (marks[first] < 0) {
            return THERE_IS_NONE;
        }
        row.clear();
        if (marks[first] > 0) {
            row.append(codeOf(firstOfTheWay(first, d)));
        }
        return marks[first];
    }

    public int rises(int ink) {
        if (!isInk(ink)) {
            return NONE;
        }
        refresh();
        int rises = chart.countRises(ink);
        row.clear();
        if (rises > 0) {
            int first = chart.firstRise(ink);
            row.append(first / BANDS);
            row.append(first % BANDS);
        }
        return rises;
    }

    public int reach(int band) {
        if (!isBand(band)) {
            return NONE;
        }
        refresh();
        // the paper alone is OPEN always, and no place comes ahead of it
        int least = 0;
        int greatest = 0;
        for (int n = 0; n < matcher.openCount; n++) {
            int place = matcher.open[n];
            if (chart.number(place, band) < chart.number(least, band)) {
                least = place;
            }
            if (chart.number(place, band) > chart.number(greatest, band)) {
                greatest = place;
            }
        }
        row.clear();
        row.append(chart.number(least, band));
        row.append(codeOf(least));
        row.append(chart.number(greatest, band));
        row.append(codeOf(greatest));
        return chart.number(greatest, band) - chart.number(least, band);
    }

    public int spread() {
        refresh();
        Arrays.fill(marks, NONE);
        Arrays.fill(tally, 0);
        int different = 0;
        for (int n = 0; n < matcher.openCount; n++) {
            int place = matcher.open[n];
            int alike = firstAlike(place);
            if (alike == place) {
                different++;
            }
            tally[alike]++;
        }
        int most = 0;
        for (int place = 1; place < PLACES; place++) {
            if (tally[place] > tally[most]) {
                most = place;
            }
        }
        row.clear();
        row.append(tally[most]);
        row.append(codeOf(most));
        row.append(matcher.openCount);
        return different;
    }

    public int odds(int r, int q, int b, int d) {
        if (!isColour(r, q, b)) {
            return NONE;
        }
        refresh();
        int near = 0;
        for (int n = 0; n < matcher.openCount; n++) {
            if (chart.distanceTo(now, matcher.open[n], r, q, b) <= d) {
                near++;
            }
        }
        row.clear();
        tellFraction(near, matcher.openCount);
        return 0;
    }

    /** Asks ahead of a question for what hangs on LIGHT, LIMIT and TOP: it is reckoned anew only where these changed. */
    private void refresh() {
        chart.follow(now);
        matcher.follow(now);
    }

    private void tellColour(int place) {
        for (int band = 0; band < BANDS; band++) {
            row.append(chart.number(place, band));
        }
    }

    private void tellFraction(int upper, int lower) {
        int divisor = greatestDivisor(upper, lower);
        if (divisor == 0) {
            return;
        }
        row.append(upper / divisor);
        row.append(lower / divisor);
    }

    private static int greatestDivisor(int a, int b) {
        int greater = a;
        int less = b;
        for (int n = 0; n < 100 && less != 0; n++) {
            int rest = greater % less;
            greater = less;
            less = rest;
        }
        return greater;
    }

    private static int folded(int number, int middle, int t) {
        return middle + (number - middle) * (8 - t) / 8;
    }

    private int leastFolded(int r, int q, int b, int t) {
        int middle = (r + q + b) / BANDS;
        return matcher.leastDistance(now, chart,
                folded(r, middle, t), folded(q, middle, t), folded(b, middle, t));
    }

    private int foldOf(int r, int q, int b) {
        int best = 0;
        int least = FAR;
        for (int t = 0; t <= 8; t++) {
            int distance = leastFolded(r, q, b, t);
            if (distance <= now.settings[SLACK]) {
                return t;
            }
            if (distance < least) {
                least = distance;
                best = t;
            }
        }
        return best;
    }

    private static int greatestChange(int place, int other) {
        int most = 0;
        for (int ink = 0; ink < INKS; ink++) {
            most = Math.max(most, Math.abs(amountOf(place, ink) - amountOf(other, ink)));
        }
        return most;
    }

    /** Marks each place from which a way leads to the last one with its changes, others with NONE. */
    private void markChangesTo(int last, int d) {
        Arrays.fill(marks, NONE);
        marks[last] = 0;
        chain[0] = last;
        int count = 1;
        for (int done = 0; done < count && done < PLACES; done++) {
            int place = chain[done];
            for (int change = 0; change < 2 * INKS; change++) {
                int next = changed(place, change);
                if (next >= 0 && marks[next] < 0 && now.isOpen(next)
                        && chart.distanceOf(now, place, next) <= d) {
                    marks[next] = marks[place] + 1;
                    chain[count] = next;
                    count++;
                }
            }
        }
    }

    private int firstOfTheWay(int first, int d) {
        int least = PLACES;
        for (int change = 0; change < 2 * INKS; change++) {
            int next = changed(first, change);
            if (next >= 0 && next < least && marks[next] == marks[first] - 1
                    && chart.distanceOf(now, first, next) <= d) {
                least = next;
            }
        }
        return least;
    }

    /** The place behind change 0 .. 7 (0 .. 3: of an ink one less, 4 .. 7: one more), or NONE. */
    private static int changed(int place, int change) {
        int ink = change % INKS;
        int by = change < INKS ? -1 : 1;
        if (!isIn(amountOf(place, ink) + by, 0, MOST_AMOUNT)) {
            return NONE;
        }
        return place + by * PLACE_WORTH[ink];
    }

    /** The first place asked for that has the COLOUR of this one; COLOURS stand in chains that begin in marks. */
    private int firstAlike(int place) {
        int begin = chart.packed(place) % PLACES;
        int other = marks[begin];
        for (int n = 0; n < PLACES && other >= 0; n++) {
            if (chart.packed(other) == chart.packed(place)) {
                return other;
            }
            other = chain[other];
        }
        chain[place] = marks[begin];
        marks[begin] = place;
        return place;
    }

    // ---- the link

    public int through(int code) {
        int place = placeOf(code);
        return place < 0 ? NONE : codeOf(linked(place));
    }

    public int sources(int code) {
        int wanted = placeOf(code);
        if (wanted < 0) {
            return NONE;
        }
        int count = 0;
        int least = NONE;
        int greatest = NONE;
        for (int place = 0; place < PLACES; place++) {
            if (linked(place) == wanted) {
                count++;
                least = least < 0 ? place : least;
                greatest = place;
            }
        }
        row.clear();
        if (count > 0) {
            row.append(codeOf(least));
            row.append(codeOf(greatest));
        }
        return count;
    }

    public int rounds(int code) {
        int place = placeOf(code);
        if (place < 0) {
            return NONE;
        }
        Arrays.fill(marks, NONE);
        int times = 0;
        for (int n = 0; n <= PLACES && marks[place] < 0; n++) {
            marks[place] = times;
            place = linked(place);
            times++;
        }
        int ahead = marks[place];
        int least = place;
        for (int n = ahead; n < times; n++) {
            place = linked(place);
            least = Math.min(least, place);
        }
        row.clear();
        row.append(times - ahead);
        row.append(codeOf(least));
        return ahead;
    }

    private int linked(int place) {
        inks.load(place);
        Inks.doSteps(inks, now.link.first, now.curves, 0);
        return inks.place();
    }

    // ---- pictures

    public int press(int how) {
        if (!isHow(how)) {
            return NONE;
        }
        if (now.cellCount() == 0) {
            return THERE_IS_NONE;
        }
        refresh();
        printed.print(now, chart, matcher, how == 1, now.cellCount());
        row.clear();
        for (int ink = 0; ink < INKS; ink++) {
            row.append(printed.inkUsed(now, ink));
        }
        row.append(printed.farFromLetters(now, chart));
        return printed.countDifferent(now);
    }

    public int cell(int how, int i) {
        if (!isHow(how)) {
            return NONE;
        }
        if (now.cellCount() == 0) {
            return THERE_IS_NONE;
        }
        if (!isIn(i, 0, now.cellCount() - 1)) {
            return NONE;
        }
        refresh();
        printed.print(now, chart, matcher, how == 1, i + 1);
        return codeOf(printed.places[i]);
    }

    public int slips(int ink, int x, int y) {
        if (!isInk(ink) || !isIn(x, -MOST_SIDE, MOST_SIDE) || !isIn(y, -MOST_SIDE, MOST_SIDE)) {
            return NONE;
        }
        if (now.cellCount() == 0) {
            return THERE_IS_NONE;
        }
        refresh();
        printed.print(now, chart, matcher, false, now.cellCount());
        int others = 0;
        int far = 0;
        for (int cell = 0; cell < now.cellCount(); cell++) {
            int was = printed.places[cell];
            int slipped = printed.slipped(now, cell, ink, x, y);
            if (slipped != was) {
                others++;
                far += chart.distanceOf(now, was, slipped);
            }
        }
        row.clear();
        row.append(far);
        return others;
    }

    // ---- greys, what to measure, another press

    public int greys(int k, int d) {
        if (!isIn(k, 0, MOST_AMOUNT)) {
            return NONE;
        }
        refresh();
        int count = 0;
        int darkest = NONE;
        int lightest = NONE;
        for (int n = 0; n < matcher.openCount; n++) {
            int place = matcher.open[n];
            if (amountOf(place, 3) != k || chart.widest(place) > d) {
                continue;
            }
            count++;
            if (darkest < 0 || chart.sum(place) < chart.sum(darkest)) {
                darkest = place;
            }
            if (lightest < 0 || chart.sum(place) > chart.sum(lightest)) {
                lightest = place;
            }
        }
        row.clear();
        if (count > 0) {
            row.append(codeOf(darkest));
            row.append(chart.sum(darkest));
            row.append(codeOf(lightest));
            row.append(chart.sum(lightest));
        }
        return count;
    }

    public int replaces(int how, int code, int d) {
        int place = placeOf(code);
        if (!isIn(how, 0, 2) || place < 0) {
            return NONE;
        }
        refresh();
        int count = 0;
        int best = NONE;
        for (int n = 0; n < matcher.openCount; n++) {
            int other = matcher.open[n];
            if (chart.distanceOf(now, place, other) > d) {
                continue;
            }
            count++;
            if (best < 0 || rank(how, other) < rank(how, best)) {
                best = other;
            }
        }
        if (count == 0) {
            return THERE_IS_NONE;
        }
        row.clear();
        row.append(count);
        return codeOf(best);
    }

    public int doubt() {
        int most = NONE;
        int best = NONE;
        for (int patch = 0; patch < PATCHES; patch++) {
            if (now.measured[patch] && now.unlike(patch) > most) {
                most = now.unlike(patch);
                best = patch;
            }
        }
        if (best < 0) {
            return THERE_IS_NONE;
        }
        row.clear();
        row.append(most);
        return best;
    }

    public int asks() {
        refresh();
        Arrays.fill(tally, 0);
        for (int n = 0; n < matcher.openCount; n++) {
            chart.goTo(matcher.open[n]);
            for (int leg = 0; leg <= INKS; leg++) {
                if (chart.share[leg] > 0) {
                    tally[chart.path[leg]]++;
                }
            }
        }
        int best = NONE;
        for (int patch = 0; patch < PATCHES; patch++) {
            if (!isPlain(patch) && !now.measured[patch] && (best < 0 || tally[patch] > tally[best])) {
                best = patch;
            }
        }
        if (best < 0) {
            return THERE_IS_NONE;
        }
        row.clear();
        row.append(tally[best]);
        return best;
    }

    public int other(int i) {
        if (!isIn(i, 0, MOST_KEPT - 1)) {
            return NONE;
        }
        if (!isKept[i]) {
            return THERE_IS_NONE;
        }
        refresh();
        trialChart.follow(kept[i]);
        int count = 0;
        int far = 0;
        int farthest = NONE;
        for (int n = 0; n < matcher.openCount; n++) {
            int place = matcher.open[n];
            int distance = trialChart.distanceTo(now, place,
                    chart.number(place, 0), chart.number(place, 1), chart.number(place, 2));
            // WEIGHTS are above 0: other COLOURS have a DISTANCE above 0
            if (distance > 0) {
                count++;
            }
            if (distance > far) {
                far = distance;
                farthest = place;
            }
        }
        row.clear();
        if (count > 0) {
            row.append(far);
            row.append(codeOf(farthest));
        }
        return count;
    }

    public int carry(int i, int code) {
        int place = placeOf(code);
        if (!isIn(i, 0, MOST_KEPT - 1) || place < 0) {
            return NONE;
        }
        if (!isKept[i]) {
            return THERE_IS_NONE;
        }
        refresh();
        trialChart.follow(kept[i]);
        int matched = matcher.find(now, chart, trialChart.number(place, 0),
                trialChart.number(place, 1), trialChart.number(place, 2));
        row.clear();
        row.append(matcher.distance);
        return codeOf(matched);
    }

    public int drifts(int seed, int n) {
        if (!isIn(n, 1, MOST_DAYS)) {
            return NONE;
        }
        refresh();
        trial.copyFrom(now);
        int r = seed;
        for (int day = 0; day < n; day++) {
            r = nextDrawn(r);
            int ink = draw(r, INKS);
            r = nextDrawn(r);
            int level = draw(r, 2) + 1;
            r = nextDrawn(r);
            int band = draw(r, BANDS);
            r = nextDrawn(r);
            int at = level * PATCH_WORTH[ink] * BANDS + band;
            trial.told[at] = put(trial.told[at] + draw(r, 21) - 10, MOST_LIGHT);
        }
        trialChart.follow(trial);
        int rises = 0;
        for (int ink = 0; ink < INKS; ink++) {
            rises += trialChart.countRises(ink);
        }
        int place = matcher.find(now, trialChart, 200, 200, 200);
        row.clear();
        row.append(codeOf(place));
        row.append(matcher.distance);
        return rises;
    }

    private static int nextDrawn(int r) {
        return r * 1103515245 + 12345;
    }

    private static int draw(int r, int n) {
        return n > 0 ? (r >>> 16) % n : 0;
    }

    /** The less, the sooner replaces() takes it. */
    private static int rank(int how, int place) {
        int black = amountOf(place, 3);
        int total = totalOf(place);
        if (how == 0) {
            return (MOST_AMOUNT - black) * 100 + total;
        }
        if (how == 1) {
            return total * 100 + MOST_AMOUNT - black;
        }
        return black * 100 + total;
    }

    // ---- kept

    public boolean keep(int i) {
        if (!isIn(i, 0, MOST_KEPT - 1)) {
            return false;
        }
        kept[i].copyFrom(now);
        isKept[i] = true;
        return true;
    }

    public boolean again(int i) {
        if (!isIn(i, 0, MOST_KEPT - 1) || !isKept[i]) {
            return false;
        }
        now.copyFrom(kept[i]);
        history.count = 0;
        return true;
    }

    public int count(int what) {
        switch (what) {
            case 0:
                return now.countMeasured();
            case 1:
            case 2:
            case 3:
            case 4:
                return now.settings[what - 1];
            case 5:
                return now.link.length;
            case 6:
                return now.link.age;
            case 7:
                return now.width;
            case 8:
                return now.height;
            case 9:
                return history.count;
            case 10:
                return row.count;
            case 11:
                return text.count;
            case 12:
            case 13:
            case 14:
                return now.settings[WEIGHT + what - 12];
            default:
                return NONE;
        }
    }

    public long row(int i) throws NoSuchElementException {
        if (i < 0 || i >= row.count) {
            throw new NoSuchElementException();
        }
        return row.numbers[i];
    }

    // ---- numbers of inks, codes, patches

    private static boolean isIn(int v, int least, int most) {
        return v >= least && v <= most;
    }

    private static boolean isInk(int ink) {
        return isIn(ink, 0, INKS - 1);
    }

    private static boolean isBand(int band) {
        return isIn(band, 0, BANDS - 1);
    }

    private static boolean isPatch(int patch) {
        return isIn(patch, 0, PATCHES - 1);
    }

    private static boolean isHow(int how) {
        return isIn(how, 0, 1);
    }

    private static boolean isColour(int r, int q, int b) {
        return isIn(r, 0, MOST_NUMBER) && isIn(q, 0, MOST_NUMBER) && isIn(b, 0, MOST_NUMBER);
    }

    private static int put(int v, int most) {
        return Math.max(0, Math.min(v, most));
    }

    private static int placeOf(int code) {
        if (!isIn(code, 0, 8888)) {
            return NONE;
        }
        int place = 0;
        for (int ink = 0; ink < INKS; ink++) {
            int amount = code / CODE_WORTH[ink] % 10;
            if (amount > MOST_AMOUNT) {
                return NONE;
            }
            place += amount * PLACE_WORTH[ink];
        }
        return place;
    }

    private static int codeOf(int place) {
        int code = 0;
        for (int ink = 0; ink < INKS; ink++) {
            code += amountOf(place, ink) * CODE_WORTH[ink];
        }
        return code;
    }

    private static int amountOf(int place, int ink) {
        return place / PLACE_WORTH[ink] % AMOUNTS;
    }

    private static int totalOf(int place) {
        return place / 729 + place / 81 % AMOUNTS + place / 9 % AMOUNTS + place % AMOUNTS;
    }

    private static int levelOf(int patch, int ink) {
        return patch / PATCH_WORTH[ink] % 3;
    }

    private static boolean isPlain(int patch) {
        int above = 0;
        for (int ink = 0; ink < INKS; ink++) {
            if (levelOf(patch, ink) > 0) {
                above++;
            }
        }
        return above <= 1;
    }

    /** The ROW. */
    private static final class Row {
        final long[] numbers = new long[9];
        int count;

        void clear() {
            count = 0;
        }

        void append(long number) {
            if (count < numbers.length) {
                numbers[count] = number;
                count++;
            }
        }
    }

    /** THE TEXT, and where it can't be what it should tell. */
    private static final class Text {
        final int[] signs = new int[MOST_SIGNS];
        int count;

        void append(int sign) {
            if (count < MOST_SIGNS) {
                signs[count] = sign;
                count++;
            }
        }

        int at(int p) {
            return p >= 0 && p < count ? signs[p] : 0;
        }

        int digit(int p) {
            return at(p) - '0';
        }

        int two(int p) {
            return 10 * digit(p) + digit(p + 1);
        }

        int patch(int p) {
            return 27 * digit(p) + 9 * digit(p + 1) + 3 * digit(p + 2) + digit(p + 3);
        }

        boolean has(int sign) {
            for (int p = 0; p < count; p++) {
                if (signs[p] == sign) {
                    return true;
                }
            }
            return false;
        }

        /** An ink's number of its letter, or the digit that stands there. */
        int operand(int p) {
            int ink = inkOf(at(p));
            return ink >= 0 ? ink : digit(p);
        }

        static int inkOf(int sign) {
            return sign > 0 ? "cmyk".indexOf((char) sign) : NONE;
        }

        /**
         * Forms: a sign for each sign that belongs together, a digit for digits up to it, k for an
         * ink, h for a letter a .. h, * for the sign that the form is asked for; empty for none.
         */
        static String stepForm(int sign) {
            switch (sign) {
                case 'l':
                case 'v':
                case 'p':
                    return "*";
                case 'g':
                    return "*4";
                case 'u':
                    return "*8";
                case 'a':
                case 's':
                case 'w':
                    return "*k8";
                case 'h':
                    return "*k";
                case 'x':
                    return "*kk";
                case 'n':
                    return "*9(";
                case 'o':
                    return "*k(";
                case 'i':
                    return "*k8(";
                case 'j':
                    return "*kk(";
                default:
                    return "";
            }
        }

        static String actForm(int sign) {
            switch (sign) {
                case 'm':
                    return "*2222999999";
                case 'f':
                    return "*2222";
                case 'l':
                    return "*99";
                case 'g':
                case 't':
                    return "*9";
                case 'w':
                    return "*29";
                case 'e':
                    return "*h999999";
                default:
                    return "";
            }
        }

        static String formOf(int tells, int sign) {
            if (tells == TELLS_PATCHES) {
                return PATCH_FORM;
            }
            return tells == TELLS_LINK ? stepForm(sign) : actForm(sign);
        }

        static boolean canStand(int sign, int form, int depth) {
            switch (form) {
                case '*':
                    return true;
                case '(':
                    return sign == '(' && depth < MOST_BRACKETS;
                case 'k':
                    return inkOf(sign) >= 0;
                case 'h':
                    return sign >= 'a' && sign <= 'h';
                default:
                    return sign >= '0' && sign <= form;
            }
        }

        /** The first sign that can't stand there, the end if it comes too early, the most signs if there are more, or NONE. */
        int wrongAt(int tells, int most) {
            String form = "";
            int inForm = 0;
            int depth = 0;
            for (int p = 0; p < count && p < most; p++) {
                int sign = signs[p];
                if (inForm == form.length()) {
                    if (sign == ')' && depth > 0) {
                        depth--;
                        continue;
                    }
                    form = formOf(tells, sign);
                    inForm = 0;
                }
                if (form.isEmpty() || !canStand(sign, form.charAt(inForm), depth)) {
                    return p;
                }
                if (form.charAt(inForm) == '(') {
                    depth++;
                }
                inForm++;
            }
            if (count > most) {
                return most;
            }
            return inForm < form.length() || depth > 0 ? count : NONE;
        }

        int curveWrongAt() {
            int least = '0';
            for (int p = 0; p < count; p++) {
                if (p == AMOUNTS || signs[p] < least || signs[p] > '8') {
                    return p;
                }
                least = signs[p];
            }
            return count > 0 && count < AMOUNTS ? count : NONE;
        }

        int pictureWrongAt() {
            int wide = MOST_SIDE;
            int row = 0;
            int inRow = 0;
            for (int p = 0; p < count; p++) {
                int sign = signs[p];
                if (sign == '/') {
                    if (inRow == 0 || row > 0 && inRow < wide || row == MOST_SIDE - 1) {
                        return p;
                    }
                    wide = inRow;
                    inRow = 0;
                    row++;
                } else {
                    if (!canStand(sign, 'h', 0) || inRow == wide) {
                        return p;
                    }
                    inRow++;
                }
            }
            return row > 0 && inRow < wide ? count : NONE;
        }
    }

    /** One STEP of a link, the first of those in its ( ), and the next one. */
    private static final class Step {
        final int kind;
        /** The ink or digit that is told first; of l the LIMIT, of p the LONG, as they were when the link was told. */
        final int first;
        final int second;
        Step inner;
        Step lastInner;
        Step next;

        Step(int kind, int first, int second) {
            this.kind = kind;
            this.first = first;
            this.second = second;
        }

        void append(Step step) {
            if (lastInner == null) {
                inner = step;
            } else {
                lastInner.next = step;
            }
            lastInner = step;
        }

        private static int longOf(Step begin, int depth) {
            int sum = 0;
            if (depth > MOST_DEPTH) {
                return sum;
            }
            for (Step step = begin; step != null; step = step.next) {
                switch (step.kind) {
                    case 'p':
                        sum += step.first;
                        break;
                    case 'n':
                        sum += 1 + step.first * longOf(step.inner, depth + 1);
                        break;
                    case 'o':
                        sum += 1 + MOST_AMOUNT * longOf(step.inner, depth + 1);
                        break;
                    case 'i':
                    case 'j':
                        sum += 1 + longOf(step.inner, depth + 1);
                        break;
                    default:
                        sum++;
                        break;
                }
            }
            return sum;
        }
    }

    /** THE LINK, as it was told; it is never changed, so that what is kept can share it. */
    private static final class Link {
        final Step first;
        final int length;
        final int age;

        Link(Step first, int length, int age) {
            this.first = first;
            this.length = length;
            this.age = age;
        }

        /** Of a text in which every sign can stand. */
        static Link read(Text text, Link former, int limit) {
            Step all = new Step('n', 1, 0);
            Step[] open = new Step[MOST_BRACKETS + 1];
            open[0] = all;
            int depth = 0;
            for (int p = 0; p < text.count; p++) {
                if (text.at(p) == ')') {
                    depth = Math.max(0, depth - 1);
                    continue;
                }
                String form = Text.stepForm(text.at(p));
                Step step = readStep(text, p, former, limit);
                // a p that does nothing is left out: else ( ) of many of them would run long, though LONG is small
                if (step.kind != 'p' || step.inner != null) {
                    open[depth].append(step);
                }
                p += Math.max(0, form.length() - 1);
                if (text.at(p) == '(' && depth < MOST_BRACKETS) {
                    depth++;
                    open[depth] = step;
                }
            }
            int age = text.has('p') ? former.age + 1 : Math.min(text.count, 1);
            return new Link(all.inner, Step.longOf(all.inner, 0), age);
        }

        static Step readStep(Text text, int p, Link former, int limit) {
            int kind = text.at(p);
            if (kind == 'l') {
                return new Step(kind, limit, 0);
            }
            if (kind == 'p') {
                Step step = new Step(kind, former.length, 0);
                step.inner = former.first;
                return step;
            }
            return new Step(kind, text.operand(p + 1), text.operand(p + 2));
        }
    }

    /** Four AMOUNTS, as steps change them. */
    private static final class Inks {
        final int[] amounts = new int[INKS];

        void load(int place) {
            for (int ink = 0; ink < INKS; ink++) {
                amounts[ink] = amountOf(place, ink);
            }
        }

        int place() {
            int place = 0;
            for (int ink = 0; ink < INKS; ink++) {
                place += amounts[ink] * PLACE_WORTH[ink];
            }
            return place;
        }

        void limitTo(int n) {
            int most = MOST_AMOUNT;
            while (most > 0 && totalWith(most) > n) {
                most--;
            }
            for (int ink = 0; ink < 3; ink++) {
                amounts[ink] = Math.min(amounts[ink], most);
            }
        }

        private int totalWith(int most) {
            return Math.min(amounts[0], most) + Math.min(amounts[1], most)
                    + Math.min(amounts[2], most) + amounts[3];
        }

        private static void doSteps(Inks inks, Step begin, int[] curves, int depth) {
            if (depth > MOST_DEPTH) {
                return;
            }
            for (Step step = begin; step != null; step = step.next) {
                int times = inks.timesOf(step);
                for (int n = 0; n < times; n++) {
                    doSteps(inks, step.inner, curves, depth + 1);
                }
                inks.doOne(step, curves);
            }
        }

        /** How often what is in ( ), or the former link, is done. */
        private int timesOf(Step step) {
            if (step.inner == null) {
                return 0;
            }
            switch (step.kind) {
                case 'n':
                    return step.first;
                case 'o':
                    return amounts[step.first];
                case 'i':
                    return amounts[step.first] > step.second ? 1 : 0;
                case 'j':
                    return amounts[step.first] > amounts[step.second] ? 1 : 0;
                case 'p':
                    return 1;
                default:
                    return 0;
            }
        }

        private void doOne(Step step, int[] curves) {
            switch (step.kind) {
                case 'l':
                    limitTo(step.first);
                    break;
                case 'v':
                    bend(curves);
                    break;
                case 'g':
                    greyToBlack(step.first);
                    break;
                case 'u':
                    blackToGrey(step.first);
                    break;
                case 'a':
                    amounts[step.first] = Math.min(MOST_AMOUNT, amounts[step.first] + step.second);
                    break;
                case 's':
                    amounts[step.first] = Math.max(0, amounts[step.first] - step.second);
                    break;
                case 'w':
                    amounts[step.first] = Math.min(amounts[step.first], step.second);
                    break;
                case 'h':
                    amounts[step.first] /= 2;
                    break;
                case 'x':
                    exchange(step.first, step.second);
                    break;
                default:
                    break;
            }
        }

        private void exchange(int ink, int other) {
            int amount = amounts[ink];
            amounts[ink] = amounts[other];
            amounts[other] = amount;
        }

        private void bend(int[] curves) {
            for (int ink = 0; ink < INKS; ink++) {
                amounts[ink] = curves[ink * AMOUNTS + amounts[ink]];
            }
        }

        private void greyToBlack(int quarters) {
            int least = Math.min(amounts[0], Math.min(amounts[1], amounts[2]));
            move(Math.min(least * quarters / 4, MOST_AMOUNT - amounts[3]));
        }

        private void blackToGrey(int most) {
            int greatest = Math.max(amounts[0], Math.max(amounts[1], amounts[2]));
            move(-Math.min(most, Math.min(amounts[3], MOST_AMOUNT - greatest)));
        }

        private void move(int toBlack) {
            for (int ink = 0; ink < 3; ink++) {
                amounts[ink] -= toBlack;
            }
            amounts[3] += toBlack;
        }
    }

    /** All that undo() brings back. */
    private static final class State {
        /** LIGHT of PLAIN and MEASURED PATCHES; what stands here of others does not count. */
        final int[] told = new int[PATCHES * BANDS];
        final boolean[] measured = new boolean[PATCHES];
        final int[] settings = new int[SETTINGS];
        final int[] curves = new int[INKS * AMOUNTS];
        final int[] palette = new int[LETTERS * BANDS];
        final int[] cells = new int[MOST_CELLS];
        int width;
        int height;
        Link link;

        State() {
            for (int i = 0; i < SETTINGS; i++) {
                settings[i] = FIRST_SETTING[i];
            }
            for (int i = 0; i < INKS * AMOUNTS; i++) {
                curves[i] = i % AMOUNTS;
            }
            for (int band = 0; band < BANDS; band++) {
                told[band] = MOST_LIGHT;
                for (int ink = 0; ink < INKS; ink++) {
                    boolean takes = ink == band || ink == 3;
                    told[PATCH_WORTH[ink] * BANDS + band] = takes ? 50 : 90;
                    told[2 * PATCH_WORTH[ink] * BANDS + band] = takes ? 10 : 80;
                }
            }
            link = new Link(null, 0, 0);
        }

        void copyFrom(State other) {
            System.arraycopy(other.told, 0, told, 0, told.length);
            for (int patch = 0; patch < PATCHES; patch++) {
                measured[patch] = other.measured[patch];
            }
            System.arraycopy(other.settings, 0, settings, 0, settings.length);
            System.arraycopy(other.curves, 0, curves, 0, curves.length);
            System.arraycopy(other.palette, 0, palette, 0, palette.length);
            System.arraycopy(other.cells, 0, cells, 0, cells.length);
            width = other.width;
            height = other.height;
            link = other.link;
        }

        int lightOf(int patch, int band) {
            return measured[patch] || isPlain(patch) ? told[patch * BANDS + band] : reckoned(patch, band);
        }

        /** LIGHT that a PATCH has if it is not MEASURED. */
        int reckoned(int patch, int band) {
            int paper = told[band];
            int light = paper;
            for (int ink = 0; ink < INKS; ink++) {
                int level = levelOf(patch, ink);
                if (level > 0) {
                    int single = told[level * PATCH_WORTH[ink] * BANDS + band];
                    light = paper == 0 ? 0 : Math.min(MOST_LIGHT, light * single / paper);
                }
            }
            return light;
        }

        int countMeasured() {
            int count = 0;
            for (int patch = 0; patch < PATCHES; patch++) {
                if (measured[patch]) {
                    count++;
                }
            }
            return count;
        }

        int tellPatch(int patch, int r, int q, int b) {
            if (!isPatch(patch) || !isIn(r, 0, MOST_LIGHT) || !isIn(q, 0, MOST_LIGHT)
                    || !isIn(b, 0, MOST_LIGHT)) {
                return NONE;
            }
            told[patch * BANDS] = r;
            told[patch * BANDS + 1] = q;
            told[patch * BANDS + 2] = b;
            measured[patch] = !isPlain(patch);
            return countMeasured();
        }

        int dropPatch(int patch) {
            if (!isPatch(patch)) {
                return NONE;
            }
            if (!measured[patch]) {
                return THERE_IS_NONE;
            }
            measured[patch] = false;
            return countMeasured();
        }

        int change(int what, int v) {
            if (!isIn(what, 0, SETTINGS - 1) || !isIn(v, LEAST_SETTING[what], MOST_SETTING[what])) {
                return NONE;
            }
            int was = settings[what];
            settings[what] = v;
            return was == v ? THERE_IS_NONE : was;
        }

        int paintLetter(int letter, int r, int q, int b) {
            if (!isIn(letter, 0, LETTERS - 1) || !isColour(r, q, b)) {
                return NONE;
            }
            int at = letter * BANDS;
            int distance = weighed(palette[at] - r, palette[at + 1] - q, palette[at + 2] - b);
            palette[at] = r;
            palette[at + 1] = q;
            palette[at + 2] = b;
            return distance;
        }

        /** Of a text in which every sign can stand. */
        void hang(Text text) {
            int count = 0;
            height = text.count == 0 ? 0 : 1;
            for (int p = 0; p < text.count && count <= MOST_CELLS; p++) {
                if (text.at(p) == '/') {
                    height++;
                } else if (count < MOST_CELLS) {
                    cells[count] = text.at(p) - 'a';
                    count++;
                }
            }
            width = height == 0 ? 0 : count / height;
        }

        int cellCount() {
            return width * height;
        }

        int bentFromStraight(int ink) {
            int sum = 0;
            for (int amount = 0; amount < AMOUNTS; amount++) {
                sum += Math.abs(curves[ink * AMOUNTS + amount] - amount);
            }
            return sum;
        }

        /** DISTANCE of two COLOURS that differ by these. */
        int weighed(int r, int q, int b) {
            return settings[WEIGHT] * r * r + settings[WEIGHT + 1] * q * q + settings[WEIGHT + 2] * b * b;
        }

        int unlike(int patch) {
            return weighed(lightOf(patch, 0) - reckoned(patch, 0), lightOf(patch, 1) - reckoned(patch, 1),
                    lightOf(patch, 2) - reckoned(patch, 2));
        }

        boolean isOpen(int place) {
            return totalOf(place) <= settings[LIMIT] && amountOf(place, 3) <= settings[TOP];
        }
    }

    /** What changes can be undone to; a slot more than can be is for the draft of one that may yet be refused. */
    private static final class History {
        final State[] slots = new State[MOST_UNDONE + 1];
        int begin;
        int count;

        History() {
            for (int i = 0; i <= MOST_UNDONE; i++) {
                slots[i] = new State();
            }
        }

        private int draftSlot() {
            return (begin + count) % (MOST_UNDONE + 1);
        }

        void draft(State now) {
            slots[draftSlot()].copyFrom(now);
        }

        void settle() {
            if (count < MOST_UNDONE) {
                count++;
            } else {
                begin = (begin + 1) % (MOST_UNDONE + 1);
            }
        }

        void bringBack(State now) {
            if (count > 0) {
                count--;
                now.copyFrom(slots[draftSlot()]);
            }
        }
    }

    /** COLOURS of all places by one LIGHT of the PATCHES. */
    private static final class Chart {
        final int[] light = new int[PATCHES * BANDS];
        final int[] numbers = new int[PLACES * BANDS];
        /** The PATCHES between which a COLOUR lies, and how much each counts. */
        final int[] path = new int[INKS + 1];
        final int[] share = new int[INKS + 1];
        private final int[] rests = new int[INKS];

        Chart() {
            // no LIGHT is NONE, so that the first state followed is reckoned
            Arrays.fill(light, NONE);
        }

        void follow(State state) {
            boolean changed = false;
            for (int patch = 0; patch < PATCHES; patch++) {
                for (int band = 0; band < BANDS; band++) {
                    int is = state.lightOf(patch, band);
                    if (light[patch * BANDS + band] != is) {
                        light[patch * BANDS + band] = is;
                        changed = true;
                    }
                }
            }
            if (changed) {
                for (int place = 0; place < PLACES; place++) {
                    reckon(place);
                }
            }
        }

        private void reckon(int place) {
            goTo(place);
            for (int band = 0; band < BANDS; band++) {
                int number = 0;
                for (int leg = 0; leg <= INKS; leg++) {
                    number += share[leg] * light[path[leg] * BANDS + band];
                }
                numbers[place * BANDS + band] = number;
            }
        }

        /** Finds path and share of a place. */
        void goTo(int place) {
            int patch = 0;
            for (int ink = 0; ink < INKS; ink++) {
                int amount = amountOf(place, ink);
                int level = amount < 4 ? 0 : 1;
                rests[ink] = amount - 4 * level;
                patch += level * PATCH_WORTH[ink];
            }
            int before = 4;
            for (int leg = 0; leg < INKS; leg++) {
                int ink = greatestRest();
                path[leg] = patch;
                share[leg] = before - rests[ink];
                before = rests[ink];
                patch += PATCH_WORTH[ink];
                rests[ink] = NONE;
            }
            path[INKS] = patch;
            share[INKS] = before;
        }

        private int greatestRest() {
            int greatest = 0;
            for (int ink = 1; ink < INKS; ink++) {
                if (rests[ink] > rests[greatest]) {
                    greatest = ink;
                }
            }
            return greatest;
        }

        int number(int place, int band) {
            return numbers[place * BANDS + band];
        }

        int sum(int place) {
            return number(place, 0) + number(place, 1) + number(place, 2);
        }

        int widest(int place) {
            int greatest = Math.max(number(place, 0), Math.max(number(place, 1), number(place, 2)));
            int least = Math.min(number(place, 0), Math.min(number(place, 1), number(place, 2)));
            return greatest - least;
        }

        /** One number for each COLOUR. */
        int packed(int place) {
            return (number(place, 0) * 512 + number(place, 1)) * 512 + number(place, 2);
        }

        int onTheWay(int first, int last, int band, int eighths) {
            return number(first, band) + (number(last, band) - number(first, band)) * eighths / 8;
        }

        int distanceTo(State state, int place, int r, int q, int b) {
            return state.weighed(number(place, 0) - r, number(place, 1) - q, number(place, 2) - b);
        }

        int distanceOf(State state, int place, int other) {
            return distanceTo(state, place, number(other, 0), number(other, 1), number(other, 2));
        }

        private boolean risesAt(int patch, int ink, int band) {
            return levelOf(patch, ink) < 2
                    && light[(patch + PATCH_WORTH[ink]) * BANDS + band] > light[patch * BANDS + band];
        }

        int countRises(int ink) {
            int count = 0;
            for (int at = 0; at < PATCHES * BANDS; at++) {
                if (risesAt(at / BANDS, ink, at % BANDS)) {
                    count++;
                }
            }
            return count;
        }

        /** BANDS times the first PATCH and its first BAND, or NONE. */
        int firstRise(int ink) {
            for (int at = 0; at < PATCHES * BANDS; at++) {
                if (risesAt(at / BANDS, ink, at % BANDS)) {
                    return at;
                }
            }
            return NONE;
        }
    }

    /** The OPEN places, and MATCH among them. */
    private static final class Matcher {
        /** In rising order. */
        final int[] open = new int[PLACES];
        int openCount;
        private int limit = NONE;
        private int top = NONE;
        private final int[] distances = new int[PLACES];
        /** Of the MATCH found last. */
        int distance;
        int low;
        int high;
        int fits;

        void follow(State state) {
            if (limit == state.settings[LIMIT] && top == state.settings[TOP]) {
                return;
            }
            limit = state.settings[LIMIT];
            top = state.settings[TOP];
            openCount = 0;
            for (int place = 0; place < PLACES; place++) {
                if (state.isOpen(place)) {
                    open[openCount] = place;
                    openCount++;
                }
            }
        }

        /** The least DISTANCE of OPEN ones, of which each is noted. */
        int leastDistance(State state, Chart chart, int r, int q, int b) {
            int least = FAR;
            for (int n = 0; n < openCount; n++) {
                distances[n] = chart.distanceTo(state, open[n], r, q, b);
                least = Math.min(least, distances[n]);
            }
            return least;
        }

        int find(State state, Chart chart, int r, int q, int b) {
            int most = leastDistance(state, chart, r, q, b) + state.settings[SLACK];
            countFits(most);
            int wished = low + (high - low) * state.settings[GREY] / 4;
            int best = 0;
            long bestRank = LAST_RANK;
            for (int n = 0; n < openCount; n++) {
                if (distances[n] <= most && rankOf(n, wished) < bestRank) {
                    bestRank = rankOf(n, wished);
                    best = n;
                }
            }
            distance = distances[best];
            return open[best];
        }

        private void countFits(int most) {
            fits = 0;
            low = MOST_AMOUNT;
            high = 0;
            for (int n = 0; n < openCount; n++) {
                if (distances[n] <= most) {
                    fits++;
                    low = Math.min(low, amountOf(open[n], 3));
                    high = Math.max(high, amountOf(open[n], 3));
                }
            }
        }

        /** The less, the sooner it is taken; of equal ones the first has the least CODE. */
        private long rankOf(int n, int wished) {
            int black = amountOf(open[n], 3);
            long rank = Math.abs(black - wished) * 10 + black;
            return (rank * 10000000 + distances[n]) * 100 + totalOf(open[n]);
        }
    }

    /** PICTURE as it is printed. */
    private static final class Press {
        /** What the CELLS are printed with. */
        final int[] places = new int[MOST_CELLS];
        private final int[] came = new int[MOST_CELLS * BANDS];
        private final int[] wanted = new int[BANDS];

        /** Prints the first CELLS. */
        void print(State state, Chart chart, Matcher matcher, boolean handsOn, int cells) {
            Arrays.fill(came, 0);
            for (int cell = 0; cell < cells; cell++) {
                int alike = firstOfLetter(state, cell);
                if (!handsOn && alike < cell) {
                    places[cell] = places[alike];
                    continue;
                }
                for (int band = 0; band < BANDS; band++) {
                    int number = state.palette[state.cells[cell] * BANDS + band];
                    wanted[band] = put(number + came[cell * BANDS + band], MOST_NUMBER);
                }
                places[cell] = matcher.find(state, chart, wanted[0], wanted[1], wanted[2]);
                if (handsOn) {
                    handOn(state, chart, cell);
                }
            }
        }

        private static int firstOfLetter(State state, int cell) {
            for (int other = 0; other < cell; other++) {
                if (state.cells[other] == state.cells[cell]) {
                    return other;
                }
            }
            return cell;
        }

        private void handOn(State state, Chart chart, int cell) {
            for (int band = 0; band < BANDS; band++) {
                int left = wanted[band] - chart.number(places[cell], band);
                if (state.width > 0 && cell % state.width + 1 < state.width) {
                    came[(cell + 1) * BANDS + band] += left / 2;
                }
                if (cell + state.width < state.cellCount()) {
                    came[(cell + state.width) * BANDS + band] += left - left / 2;
                }
            }
        }

        int inkUsed(State state, int ink) {
            int sum = 0;
            for (int cell = 0; cell < state.cellCount(); cell++) {
                sum += amountOf(places[cell], ink);
            }
            return sum;
        }

        long farFromLetters(State state, Chart chart) {
            long sum = 0;
            for (int cell = 0; cell < state.cellCount(); cell++) {
                int at = state.cells[cell] * BANDS;
                sum += chart.distanceTo(state, places[cell],
                        state.palette[at], state.palette[at + 1], state.palette[at + 2]);
            }
            return sum;
        }

        int countDifferent(State state) {
            int count = 0;
            for (int cell = 0; cell < state.cellCount(); cell++) {
                boolean isNew = true;
                for (int other = 0; other < cell && isNew; other++) {
                    isNew = places[other] != places[cell];
                }
                if (isNew) {
                    count++;
                }
            }
            return count;
        }

        /** What a CELL is printed with if the plate of an ink slips. */
        int slipped(State state, int cell, int ink, int x, int y) {
            if (state.width == 0) {
                return places[cell];
            }
            int column = cell % state.width - x;
            int row = cell / state.width - y;
            int amount = 0;
            if (isIn(column, 0, state.width - 1) && isIn(row, 0, state.height - 1)) {
                amount = amountOf(places[row * state.width + column], ink);
            }
            return places[cell] + (amount - amountOf(places[cell], ink)) * PLACE_WORTH[ink];
        }
    }
}
