import java.util.Arrays;

/** Figures that stand near where they are mentioned; README.md says how to use it. */
public final class NearFigures {
    public static final int NONE = -1, UNKNOWN = -1000000001, OUTSIDE = -1000000002, NOT = -1000000003, FULL = -1000000004;

    private static final int MOST_LINES = 120, MOST_FIGURES = 10, MOST_SEED = 999999;
    // A page without a figure has 6 lines at least, but for the last of them: 20 such pages and 10 with a figure.
    private static final int MOST_PAGES = 30;
    private static final int MOST_ON_A_PAGE = 4;
    private static final int IMAGES = 2, UNDOABLE = 6;

    private static final int LINES = 0, HIGH = 1, COLUMNS = 2, TOP = 3, MOST = 4, EARLY = 5, BOUNDS = 6;
    private static final int HEIGHT = 0, WIDE = 1, MENTION = 2, WEIGHT = 3, PARTS = 4;
    private static final int[] LEAST_BOUND = {0, 6, 1, 0, 1, 0};
    private static final int[] GREATEST_BOUND = {120, 40, 2, 40, 4, 1};
    private static final int[] LEAST_PART = {1, 0, 0, 1};
    private static final int[] GREATEST_PART = {40, 1, 119, 9};

    private final Setting now;
    private final Setting trial;
    private final Setting[] images;
    private final boolean[] imageKept;
    private final History history;
    private final Planner planner;
    private final Planner trialPlanner;
    private final Plan best;
    private final Plan greedy;
    private final Plan made;
    private final int[] handed;
    private int handedPages;
    private boolean stale;

    public NearFigures() {
        now = new Setting();
        trial = new Setting();
        images = new Setting[IMAGES];
        for (int i = 0; i < IMAGES; i++) {
            images[i] = new Setting();
        }
        imageKept = new boolean[IMAGES];
        history = new History();
        planner = new Planner();
        trialPlanner = new Planner();
        best = new Plan();
        greedy = new Plan();
        made = new Plan();
        handed = new int[MOST_PAGES];
        handedPages = 0;
        stale = true;
    }

    // ---- what there is

    public int layout(int what, int v) {
        if (!now.boundMayBe(what, v)) {
            return OUTSIDE;
        }
        int was = now.bounds[what];
        aheadOfChange();
        now.bounds[what] = v;
        now.bounds[TOP] = Math.min(now.bounds[TOP], now.bounds[HIGH]);
        return was;
    }

    public int figure(int i, int height, int wide, int mention, int weight) {
        if (i < 0 || i > now.figures || !partMayBe(HEIGHT, height) || !partMayBe(WIDE, wide)
                || !partMayBe(MENTION, mention) || !partMayBe(WEIGHT, weight)) {
            return OUTSIDE;
        }
        if (now.figures >= MOST_FIGURES) {
            return FULL;
        }
        aheadOfChange();
        now.openAt(i);
        now.describe(i, height, wide, mention, weight);
        return now.figures;
    }

    public int drop(int f) {
        if (!now.has(f)) {
            return UNKNOWN;
        }
        aheadOfChange();
        now.closeAt(f);
        return now.figures;
    }

    public int mention(int f, int line) {
        if (!now.has(f)) {
            return UNKNOWN;
        }
        if (!partMayBe(MENTION, line)) {
            return OUTSIDE;
        }
        int was = now.parts[MENTION][f];
        aheadOfChange();
        now.parts[MENTION][f] = line;
        return was;
    }

    public int drift(int n, int seed) {
        if (n < 0 || n > MOST_FIGURES || seed < 1 || seed > MOST_SEED) {
            return OUTSIDE;
        }
        aheadOfChange();
        now.drawLots(n, seed);
        settle();
        return planner.costFrom(0, 0);
    }

    public int undo() {
        if (history.size == 0) {
            return NOT;
        }
        history.bringBack(now);
        stale = true;
        return history.size;
    }

    public int told(int what) {
        if (what < 0 || what > 15) {
            return OUTSIDE;
        }
        if (what < BOUNDS) {
            return now.bounds[what];
        }
        settle();
        switch (what) {
            case 6: return now.figures;
            case 7: return planner.measure.clash;
            case 8: return planner.costFrom(0, 0);
            case 9: return best.pages;
            case 10: return greedy.cost(planner.measure);
            case 11: return greedy.pages;
            case 12: return planner.places;
            case 13: return best.heavy(planner.measure);
            case 14: return handedPages;
            default: return history.size;
        }
    }

    public int figureOf(int f, int what) {
        if (!now.has(f)) {
            return UNKNOWN;
        }
        if (what < 0 || what > 7) {
            return OUTSIDE;
        }
        if (what < PARTS) {
            return now.parts[what][f];
        }
        settle();
        switch (what) {
            case 4: return best.pageOfFigure(f);
            case 5: return best.pageWithLine(planner.measure.due[f]);
            case 6: return best.costOfFigure(planner.measure, f);
            default: return greedy.pageOfFigure(f);
        }
    }

    public int page(int p, int what) {
        settle();
        if (p < 0 || p >= best.pages) {
            return UNKNOWN;
        }
        if (what < 0 || what > 6) {
            return OUTSIDE;
        }
        Measure measure = planner.measure;
        int lines = best.lines[p + 1] - best.lines[p];
        int taken = measure.takenUpTo[best.figures[p + 1]] - measure.takenUpTo[best.figures[p]];
        switch (what) {
            case 0: return best.figures[p + 1] - best.figures[p];
            case 1: return lines;
            case 2: return lines == 0 ? NONE : best.lines[p];
            case 3: return taken;
            case 4: return measure.room - taken - lines;
            case 5: return measure.waiting(best.lines[p + 1], best.figures[p + 1]);
            default: return measure.unmentioned(best.lines[p + 1], best.figures[p + 1]);
        }
    }

    public int pageOf(int line) {
        if (line < 0 || line >= now.bounds[LINES]) {
            return UNKNOWN;
        }
        settle();
        return best.pages == NONE ? NOT : best.pageWithLine(line);
    }

    public int fits(int f, int n) {
        if (n > 0 && !now.has(f)) {
            return UNKNOWN;
        }
        if (n == 0) {
            return 1;
        }
        if (n < 0 || n > now.figures - f) {
            return OUTSIDE;
        }
        return now.standTogether(f, n) ? 1 : 0;
    }

    public long ways() {
        settle();
        return planner.waysOfBest();
    }

    public int without(int f) {
        if (!now.has(f)) {
            return UNKNOWN;
        }
        trial.becomes(now);
        trial.closeAt(f);
        return costOfTrial();
    }

    public int moved(int f, int line) {
        if (!now.has(f)) {
            return UNKNOWN;
        }
        if (!partMayBe(MENTION, line)) {
            return OUTSIDE;
        }
        trial.becomes(now);
        trial.parts[MENTION][f] = line;
        return costOfTrial();
    }

    public int from(int lines, int figures, int what) {
        if (what < 0 || what > 1) {
            return OUTSIDE;
        }
        settle();
        return what == 0 ? planner.costFrom(lines, figures) : planner.pagesFrom(lines, figures);
    }

    // ---- by hand

    public int hand(int n) {
        if (n < 0 || n > MOST_ON_A_PAGE) {
            return OUTSIDE;
        }
        if (handedPages >= MOST_PAGES) {
            return FULL;
        }
        handed[handedPages] = n;
        handedPages++;
        return handedPages;
    }

    public int clear() {
        int were = handedPages;
        handedPages = 0;
        return were;
    }

    public int judge(int what) {
        if (what < 0 || what > 1) {
            return OUTSIDE;
        }
        settle();
        int wrong = made.takeHanded(planner.measure, handed, handedPages);
        if (what == 0) {
            return wrong;
        }
        return wrong == 0 ? made.cost(planner.measure) : NONE;
    }

    // ---- images

    public int keep(int i) {
        if (i < 0 || i >= IMAGES) {
            return UNKNOWN;
        }
        images[i].becomes(now);
        imageKept[i] = true;
        history.size = 0;
        return now.figures;
    }

    public int goBack(int i) {
        if (i < 0 || i >= IMAGES) {
            return UNKNOWN;
        }
        if (!imageKept[i]) {
            return NOT;
        }
        now.becomes(images[i]);
        history.size = 0;
        stale = true;
        return now.figures;
    }

    private static boolean partMayBe(int part, int v) {
        return v >= LEAST_PART[part] && v <= GREATEST_PART[part];
    }

    private void aheadOfChange() {
        history.remember(now);
        stale = true;
    }

    /** Questions come in rows between changes, so the plans are sought once for all of them. */
    private void settle() {
        if (!stale) {
            return;
        }
        planner.solve(now);
        best.follow(planner);
        greedy.takeMost(planner.measure);
        stale = false;
    }

    private int costOfTrial() {
        trialPlanner.solve(trial);
        return trialPlanner.costFrom(0, 0);
    }

    /** The text, all bounds and the figures: what an image keeps and what undo() brings back. */
    private static final class Setting {
        private final int[] bounds = {40, 10, 2, 6, 3, 0};
        private final int[][] parts = new int[PARTS][MOST_FIGURES];
        private int figures = 0;

        void becomes(Setting other) {
            System.arraycopy(other.bounds, 0, bounds, 0, BOUNDS);
            for (int part = 0; part < PARTS; part++) {
                System.arraycopy(other.parts[part], 0, parts[part], 0, MOST_FIGURES);
            }
            figures = other.figures;
        }

        boolean has(int f) {
            return f >= 0 && f < figures;
        }

        boolean boundMayBe(int what, int v) {
            if (what < 0 || what >= BOUNDS || v < LEAST_BOUND[what] || v > GREATEST_BOUND[what]) {
                return false;
            }
            return what != TOP || v <= bounds[HIGH];
        }

        /** Room for one more figure at place i, which is at most how many there are, and they fewer than may be. */
        void openAt(int i) {
            for (int part = 0; part < PARTS; part++) {
                System.arraycopy(parts[part], i, parts[part], i + 1, figures - i);
            }
            figures++;
        }

        void closeAt(int f) {
            for (int part = 0; part < PARTS; part++) {
                System.arraycopy(parts[part], f + 1, parts[part], f, figures - f - 1);
            }
            figures--;
        }

        void describe(int f, int height, int wide, int line, int weight) {
            parts[HEIGHT][f] = height;
            parts[WIDE][f] = wide;
            parts[MENTION][f] = line;
            parts[WEIGHT][f] = weight;
        }

        void drawLots(int n, int seed) {
            int x = seed;
            int heights = Math.max(bounds[TOP], 1);
            int mentions = Math.max(bounds[LINES], 1);
            figures = n;
            for (int f = 0; f < n; f++) {
                x = nextLot(x);
                parts[HEIGHT][f] = x % heights + 1;
                x = nextLot(x);
                parts[WIDE][f] = x % 2;
                x = nextLot(x);
                parts[MENTION][f] = x % mentions;
                x = nextLot(x);
                parts[WEIGHT][f] = x % 9 + 1;
            }
        }

        private static int nextLot(int x) {
            return (int) (x * 16807L % 2147483647L);
        }

        /** Whether n figures from f on, which are all there, can stand on one page. */
        boolean standTogether(int f, int n) {
            if (n > bounds[MOST]) {
                return false;
            }
            int left = bounds[TOP];
            int narrow = 0;
            for (int k = f; k < f + n; k++) {
                if (parts[WIDE][k] == 1) {
                    left -= parts[HEIGHT][k];
                } else {
                    narrow += parts[HEIGHT][k];
                }
            }
            // Bit j of a choice puts figure f + j into the second column, if it is narrow.
            int choices = bounds[COLUMNS] == 1 ? 1 : 1 << n;
            for (int choice = 0; choice < choices; choice++) {
                int second = heightsChosen(f, n, choice);
                if (second <= left && narrow - second <= left) {
                    return true;
                }
            }
            return false;
        }

        private int heightsChosen(int f, int n, int choice) {
            int sum = 0;
            for (int j = 0; j < n; j++) {
                if ((choice >> j & 1) == 1 && parts[WIDE][f + j] == 0) {
                    sum += parts[HEIGHT][f + j];
                }
            }
            return sum;
        }
    }

    /** The latest settings that can be brought back, in a ring, so that the oldest is lost without moving the rest. */
    private static final class History {
        private final Setting[] ring = new Setting[UNDOABLE];
        private int end = 0;
        private int size = 0;

        History() {
            for (int k = 0; k < UNDOABLE; k++) {
                ring[k] = new Setting();
            }
        }

        void remember(Setting setting) {
            ring[end].becomes(setting);
            end = (end + 1) % UNDOABLE;
            size = Math.min(size + 1, UNDOABLE);
        }

        void bringBack(Setting setting) {
            end = (end + UNDOABLE - 1) % UNDOABLE;
            setting.becomes(ring[end]);
            size--;
        }
    }

    /** What follows from a setting for any page: room, which figures stand together, which line each waits for. */
    private static final class Measure {
        private int lines;
        private int figures;
        private int room;
        private boolean early;
        private int clash;
        private final int[] due = new int[MOST_FIGURES];
        private final int[] weights = new int[MOST_FIGURES];
        // One more than there can be figures: behind the last one none can be taken.
        private final int[] most = new int[MOST_FIGURES + 1];
        private final int[] takenUpTo = new int[MOST_FIGURES + 1];

        void take(Setting s) {
            int columns = s.bounds[COLUMNS];
            lines = s.bounds[LINES];
            figures = s.figures;
            room = columns * s.bounds[HIGH];
            early = s.bounds[EARLY] == 1;
            clash = NONE;
            for (int f = 0; f < figures; f++) {
                // A mention behind the text is as one in its last line; in no text it is line -1, ahead of page 0's end.
                due[f] = Math.min(s.parts[MENTION][f], lines - 1);
                weights[f] = s.parts[WEIGHT][f];
                takenUpTo[f + 1] = takenUpTo[f] + s.parts[HEIGHT][f] * (s.parts[WIDE][f] == 1 ? columns : 1);
                most[f] = mostFrom(s, f);
                if (most[f] == 0 && clash == NONE) {
                    clash = f;
                }
            }
            most[figures] = 0;
        }

        private static int mostFrom(Setting s, int f) {
            int n = 0;
            int limit = Math.min(s.bounds[MOST], s.figures - f);
            while (n < limit && s.standTogether(f, n + 1)) {
                n++;
            }
            return n;
        }

        boolean isEnd(int l, int f) {
            return l == lines && f == figures;
        }

        /** How many lines stand behind a page with n figures (at most most[f]) that begins behind l lines, f figures. */
        int linesBehind(int l, int f, int n) {
            int behind = l + room - (takenUpTo[f + n] - takenUpTo[f]);
            return behind < lines ? behind : lines;
        }

        /** Whether all of n figures on a page, with so many lines behind it, are mentioned by then. */
        boolean areMentioned(int f, int n, int linesBehind) {
            for (int k = f; k < f + n; k++) {
                if (due[k] >= linesBehind) {
                    return false;
                }
            }
            return true;
        }

        boolean mayTake(int l, int f, int n) {
            if (n > most[f]) {
                return false;
            }
            int behind = linesBehind(l, f, n);
            if (n == 0) {
                return behind > l;
            }
            return early || areMentioned(f, n, behind);
        }

        /** A figure costs its weight for each page's end that lies between it and its mention: so much at this one. */
        int toll(int l, int f) {
            int sum = 0;
            for (int k = 0; k < figures; k++) {
                if ((due[k] < l) != (k < f)) {
                    sum += weights[k];
                }
            }
            return sum;
        }

        int waiting(int l, int f) {
            int set = 0;
            for (int k = f; k < figures; k++) {
                if (due[k] < l) {
                    set |= 1 << k;
                }
            }
            return set;
        }

        int unmentioned(int l, int f) {
            int set = 0;
            for (int k = 0; k < f; k++) {
                if (due[k] >= l) {
                    set |= 1 << k;
                }
            }
            return set;
        }
    }

    /** What is best from each place on; a place is a pair of how many lines, how many figures stand. */
    private static final class Planner {
        private static final int WIDTH = MOST_FIGURES + 1;
        private static final int PLACES = (MOST_LINES + 1) * WIDTH;
        private static final int UNREACHED = -1;
        // Cost and pages are held as one number that compares as the pair does; there are fewer pages than this.
        private static final int COST_UNIT = 64;

        private final Measure measure = new Measure();
        private final int[] values = new int[PLACES];
        private final int[] tolls = new int[PLACES];
        private final int[] taken = new int[PLACES];
        private final long[] plans = new long[PLACES];
        private int places;

        void solve(Setting setting) {
            measure.take(setting);
            Arrays.fill(values, UNREACHED);
            places = 0;
            if (measure.clash == NONE) {
                reachPlaces();
                valuePlaces();
            }
        }

        /** No page takes lines or figures back, so that each place is reached before it is passed. */
        private void reachPlaces() {
            values[0] = 0;
            for (int l = 0; l <= measure.lines; l++) {
                for (int f = 0; f <= measure.figures; f++) {
                    int place = l * WIDTH + f;
                    if (values[place] != UNREACHED) {
                        places++;
                        tolls[place] = measure.toll(l, f);
                        reachFrom(l, f);
                    }
                }
            }
        }

        private void reachFrom(int l, int f) {
            for (int n = 0; n <= measure.most[f]; n++) {
                if (measure.mayTake(l, f, n)) {
                    values[placeBehind(l, f, n)] = 0;
                }
            }
        }

        private int placeBehind(int l, int f, int n) {
            return measure.linesBehind(l, f, n) * WIDTH + f + n;
        }

        private void valuePlaces() {
            for (int l = measure.lines; l >= 0; l--) {
                for (int f = measure.figures; f >= 0; f--) {
                    if (values[l * WIDTH + f] != UNREACHED) {
                        valuePlace(l, f);
                    }
                }
            }
        }

        private void valuePlace(int l, int f) {
            boolean end = measure.isEnd(l, f);
            int least = end ? 0 : Integer.MAX_VALUE;
            long count = end ? 1 : 0;
            int chosen = 0;
            for (int n = 0; n <= measure.most[f]; n++) {
                if (!measure.mayTake(l, f, n)) {
                    continue;
                }
                int behind = placeBehind(l, f, n);
                int value = values[behind] + tolls[behind] * COST_UNIT + 1;
                if (value < least) {
                    least = value;
                    count = 0;
                    chosen = n;
                }
                if (value == least) {
                    count += plans[behind];
                }
            }
            int place = l * WIDTH + f;
            values[place] = least;
            plans[place] = count;
            taken[place] = chosen;
        }

        private boolean isPlace(int l, int f) {
            return l >= 0 && l <= measure.lines && f >= 0 && f <= measure.figures && values[l * WIDTH + f] != UNREACHED;
        }

        int costFrom(int l, int f) {
            return isPlace(l, f) ? values[l * WIDTH + f] / COST_UNIT : NONE;
        }

        int pagesFrom(int l, int f) {
            return isPlace(l, f) ? values[l * WIDTH + f] % COST_UNIT : NONE;
        }

        int takenFrom(int l, int f) {
            return isPlace(l, f) ? taken[l * WIDTH + f] : 0;
        }

        long waysOfBest() {
            return isPlace(0, 0) ? plans[0] : 0;
        }
    }

    /** One plan: at p + 1 how many lines and figures stand behind page p; its pages are NONE, if there is no plan. */
    private static final class Plan {
        private final int[] lines = new int[MOST_PAGES + 1];
        private final int[] figures = new int[MOST_PAGES + 1];
        private int pages = NONE;

        private void addPage(Measure measure, int n) {
            int l = lines[pages];
            int f = figures[pages];
            pages++;
            lines[pages] = measure.linesBehind(l, f, n);
            figures[pages] = f + n;
        }

        private boolean mayGoOn(Measure measure) {
            return pages < MOST_PAGES && !measure.isEnd(lines[pages], figures[pages]);
        }

        void follow(Planner planner) {
            if (planner.measure.clash != NONE) {
                pages = NONE;
                return;
            }
            pages = 0;
            for (int p = 0; p < MOST_PAGES && mayGoOn(planner.measure); p++) {
                addPage(planner.measure, planner.takenFrom(lines[p], figures[p]));
            }
        }

        void takeMost(Measure measure) {
            if (measure.clash != NONE) {
                pages = NONE;
                return;
            }
            pages = 0;
            for (int p = 0; p < MOST_PAGES && mayGoOn(measure); p++) {
                int f = figures[p];
                int n = measure.most[f];
                while (n > 0 && !measure.areMentioned(f, n, measure.linesBehind(lines[p], f, n))) {
                    n--;
                }
                addPage(measure, n);
            }
        }

        /** 0, if the first of the numbers, so many, tell a plan; else the first page that cannot be so, and 1. */
        int takeHanded(Measure measure, int[] numbers, int many) {
            pages = 0;
            for (int p = 0; p < many && p < MOST_PAGES && p < numbers.length; p++) {
                if (!measure.mayTake(lines[p], figures[p], numbers[p])) {
                    return p + 1;
                }
                addPage(measure, numbers[p]);
            }
            return measure.isEnd(lines[pages], figures[pages]) ? 0 : pages + 1;
        }

        int pageWithLine(int line) {
            return firstAbove(lines, line);
        }

        int pageOfFigure(int f) {
            return firstAbove(figures, f);
        }

        private int firstAbove(int[] behind, int number) {
            for (int p = 0; p < pages; p++) {
                if (behind[p + 1] > number) {
                    return p;
                }
            }
            return NONE;
        }

        int costOfFigure(Measure measure, int f) {
            if (pages == NONE) {
                return NONE;
            }
            return measure.weights[f] * Math.abs(pageOfFigure(f) - pageWithLine(measure.due[f]));
        }

        int cost(Measure measure) {
            if (pages == NONE) {
                return NONE;
            }
            int sum = 0;
            for (int f = 0; f < measure.figures; f++) {
                sum += costOfFigure(measure, f);
            }
            return sum;
        }

        int heavy(Measure measure) {
            int heaviest = NONE;
            int most = 0;
            for (int f = 0; f < measure.figures; f++) {
                int cost = costOfFigure(measure, f);
                if (cost > most) {
                    most = cost;
                    heaviest = f;
                }
            }
            return heaviest;
        }
    }
}
