import java.util.ArrayDeque;
import java.util.ArrayList;
import java.util.Arrays;
import java.util.Deque;
import java.util.HashMap;
import java.util.List;
import java.util.Map;
import java.util.Random;
import java.util.TreeMap;

/**
 * Long runs of calls, drawn by fixed seeds, on an object and on a plain model of the document beside it.
 * The model tries every plan where they are few, and goes from the front where they are many.
 */
public final class ModelTest {
    static final int NONE = -1, UNKNOWN = -1000000001, OUTSIDE = -1000000002, NOT = -1000000003, FULL = -1000000004;
    static final int RUNS = 600, CALLS = 512;
    static final double FEW_PLANS = 400;

    /** The text, bounds and figures. */
    static final class State {
        final int[] b = {40, 10, 2, 6, 3, 0};
        final List<int[]> figs = new ArrayList<>();

        State copy() {
            State s = new State();
            System.arraycopy(b, 0, s.b, 0, 6);
            for (int[] fig : figs) {
                s.figs.add(fig.clone());
            }
            return s;
        }

        int lines() {
            return b[0];
        }

        int count() {
            return figs.size();
        }

        boolean fit(int f, int n) {
            return n <= b[4] && assign(f, f + n, new int[b[2]]);
        }

        private boolean assign(int f, int end, int[] columns) {
            for (int c : columns) {
                if (c > b[3]) {
                    return false;
                }
            }
            if (f == end) {
                return true;
            }
            int[] fig = figs.get(f);
            if (fig[1] == 1) {
                int[] all = columns.clone();
                for (int c = 0; c < all.length; c++) {
                    all[c] += fig[0];
                }
                return assign(f + 1, end, all);
            }
            for (int c = 0; c < columns.length; c++) {
                int[] one = columns.clone();
                one[c] += fig[0];
                if (assign(f + 1, end, one)) {
                    return true;
                }
            }
            return false;
        }

        int takes(int f, int n) {
            int sum = 0;
            for (int k = f; k < f + n; k++) {
                sum += figs.get(k)[0] * (figs.get(k)[1] == 1 ? b[2] : 1);
            }
            return sum;
        }

        int behind(int l, int f, int n) {
            return Math.min(lines(), l + b[1] * b[2] - takes(f, n));
        }

        /** Whether the figure's mention stands within the first l lines (of a page that is there). */
        boolean mentioned(int k, int l) {
            return lines() == 0 || l == lines() || figs.get(k)[2] < l;
        }

        boolean timely(int l, int f, int n) {
            for (int k = f; k < f + n; k++) {
                if (!mentioned(k, behind(l, f, n))) {
                    return false;
                }
            }
            return true;
        }

        boolean may(int l, int f, int n) {
            if (f + n > count() || !fit(f, n)) {
                return false;
            }
            if (n == 0 && behind(l, f, 0) == l) {
                return false;
            }
            return b[5] == 1 || timely(l, f, n);
        }

        int clash() {
            for (int f = 0; f < count(); f++) {
                if (!fit(f, 1)) {
                    return f;
                }
            }
            return NONE;
        }
    }

    /** A plan laid out line by line and figure by figure. */
    static final class Laid {
        final State s;
        final int[] numbers;
        final int pages;
        final int[] lineAt, figAt;
        final int[] pageOfLine, pageOfFig;

        Laid(State s, List<Integer> plan) {
            this.s = s;
            pages = plan.size();
            numbers = new int[pages];
            lineAt = new int[pages + 1];
            figAt = new int[pages + 1];
            pageOfLine = new int[s.lines()];
            pageOfFig = new int[s.count()];
            for (int p = 0; p < pages; p++) {
                numbers[p] = plan.get(p);
                lineAt[p + 1] = s.behind(lineAt[p], figAt[p], numbers[p]);
                figAt[p + 1] = figAt[p] + numbers[p];
                Arrays.fill(pageOfLine, lineAt[p], lineAt[p + 1], p);
                Arrays.fill(pageOfFig, figAt[p], figAt[p + 1], p);
            }
        }

        int mentionPage(int k) {
            int m = s.figs.get(k)[2];
            if (s.lines() == 0) {
                return 0;
            }
            return pageOfLine[Math.min(m, s.lines() - 1)];
        }

        int cost(int k) {
            return s.figs.get(k)[3] * Math.abs(pageOfFig[k] - mentionPage(k));
        }

        int cost() {
            return costBehind(0);
        }

        /** What comes to the cost on pages from the first one on, of the page's ends that lie behind it. */
        int costBehind(int first) {
            int sum = 0;
            for (int k = 0; k < s.count(); k++) {
                int a = Math.max(first, Math.min(pageOfFig[k], mentionPage(k)));
                int b = Math.max(first, Math.max(pageOfFig[k], mentionPage(k)));
                sum += s.figs.get(k)[3] * (b - a);
            }
            return sum;
        }

        int heavy() {
            int who = NONE;
            for (int k = 0; k < s.count(); k++) {
                if (cost(k) > (who == NONE ? 0 : cost(who))) {
                    who = k;
                }
            }
            return who;
        }
    }

    /** Best plans of a state: best is null if there is none. */
    static final class Answer {
        Laid best;
        Laid greedy;
        long ways;
        int places;
        Map<Integer, int[]> from = new HashMap<>();

        int cost() {
            return best == null ? NONE : best.cost();
        }
    }

    static double plans(State s, int l, int f, Map<Integer, Double> known) {
        if (l == s.lines() && f == s.count()) {
            return 1;
        }
        Double had = known.get(l * 100 + f);
        if (had != null) {
            return had;
        }
        double sum = 0;
        for (int n = 0; n <= 4; n++) {
            if (s.may(l, f, n)) {
                sum += plans(s, s.behind(l, f, n), f + n, known);
            }
        }
        known.put(l * 100 + f, sum);
        return sum;
    }

    static void every(State s, int l, int f, List<Integer> plan, List<Laid> all) {
        if (l == s.lines() && f == s.count()) {
            all.add(new Laid(s, plan));
            return;
        }
        for (int n = 0; n <= 4; n++) {
            if (s.may(l, f, n)) {
                plan.add(n);
                every(s, s.behind(l, f, n), f + n, plan, all);
                plan.remove(plan.size() - 1);
            }
        }
    }

    static void byTrial(State s, Answer a) {
        List<Laid> all = new ArrayList<>();
        every(s, 0, 0, new ArrayList<>(), all);
        for (Laid x : all) {
            int c = a.best == null ? 1 : Integer.compare(a.best.cost(), x.cost());
            if (c == 0) {
                c = Integer.compare(a.best.pages, x.pages);
            }
            if (c > 0) {
                a.best = x;
                a.ways = 0;
            }
            if (c >= 0) {
                a.ways++;
            }
            for (int p = 0; p <= x.pages; p++) {
                int[] value = {x.costBehind(p), x.pages - p};
                // The end of the page ahead of the place is no part of what comes behind it.
                int key = x.lineAt[p] * 100 + x.figAt[p];
                int[] had = a.from.get(key);
                if (had == null || had[0] > value[0] || had[0] == value[0] && had[1] > value[1]) {
                    a.from.put(key, value);
                }
            }
        }
        a.places = a.from.size();
    }

    record Way(int cost, int pages, long count, String path) {
        boolean better(Way o) {
            if (cost != o.cost) {
                return cost < o.cost;
            }
            return pages != o.pages ? pages < o.pages : path.compareTo(o.path) < 0;
        }
    }

    static int toll(State s, int l, int f) {
        int sum = 0;
        for (int k = 0; k < s.count(); k++) {
            if (s.mentioned(k, l) != (k < f)) {
                sum += s.figs.get(k)[3];
            }
        }
        return sum;
    }

    static TreeMap<Integer, Way> forward(State s, int l0, int f0) {
        TreeMap<Integer, Way> ways = new TreeMap<>();
        ways.put(l0 * 100 + f0, new Way(0, 0, 1, ""));
        for (Integer key = ways.firstKey(); key != null; key = ways.higherKey(key)) {
            Way w = ways.get(key);
            int l = key / 100, f = key % 100;
            for (int n = 0; n <= 4; n++) {
                if (!s.may(l, f, n)) {
                    continue;
                }
                int l2 = s.behind(l, f, n), f2 = f + n;
                Way next = new Way(w.cost + toll(s, l2, f2), w.pages + 1, w.count, w.path + n);
                Way had = ways.get(l2 * 100 + f2);
                if (had != null) {
                    Way first = next.better(had) ? next : had;
                    boolean like = next.cost == had.cost && next.pages == had.pages;
                    next = new Way(first.cost, first.pages, like ? next.count + had.count : first.count, first.path);
                }
                ways.put(l2 * 100 + f2, next);
            }
        }
        return ways;
    }

    static void fromFront(State s, Answer a) {
        TreeMap<Integer, Way> ways = forward(s, 0, 0);
        Way end = ways.get(s.lines() * 100 + s.count());
        a.ways = end.count;
        a.places = ways.size();
        List<Integer> plan = new ArrayList<>();
        for (char c : end.path.toCharArray()) {
            plan.add(c - '0');
        }
        a.best = new Laid(s, plan);
        for (Integer key : ways.keySet()) {
            a.from.put(key, null);
        }
    }

    static Laid greedy(State s) {
        List<Integer> plan = new ArrayList<>();
        int l = 0, f = 0;
        while (l < s.lines() || f < s.count()) {
            int most = 0;
            for (int n = 1; n <= 4 && f + n <= s.count(); n++) {
                if (s.fit(f, n) && (l == s.lines() || s.timely(l, f, n))) {
                    most = n;
                }
            }
            plan.add(most);
            l = s.behind(l, f, most);
            f += most;
        }
        return new Laid(s, plan);
    }

    static Answer answer(State s) {
        Answer a = new Answer();
        if (s.clash() != NONE) {
            return a;
        }
        if (plans(s, 0, 0, new HashMap<>()) <= FEW_PLANS) {
            byTrial(s, a);
            tried++;
        } else {
            fromFront(s, a);
            fronted++;
        }
        a.greedy = greedy(s);
        return a;
    }

    static int tried = 0, fronted = 0;

    /** The document's calls on the model. */
    static final class Model {
        State s = new State();
        final Deque<State> undo = new ArrayDeque<>();
        final State[] images = new State[2];
        final List<Integer> hand = new ArrayList<>();
        Answer known;

        Answer now() {
            if (known == null) {
                known = answer(s);
            }
            return known;
        }

        void change() {
            undo.addLast(s.copy());
            if (undo.size() > 6) {
                undo.removeFirst();
            }
            known = null;
        }

        static boolean in(int v, int low, int high) {
            return v >= low && v <= high;
        }

        boolean has(int f) {
            return in(f, 0, s.count() - 1);
        }

        int layout(int what, int v) {
            int[][] bounds = {{0, 120}, {6, 40}, {1, 2}, {0, s.b[1]}, {1, 4}, {0, 1}};
            if (!in(what, 0, 5) || !in(v, bounds[what][0], bounds[what][1])) {
                return OUTSIDE;
            }
            change();
            int was = s.b[what];
            s.b[what] = v;
            if (s.b[3] > s.b[1]) {
                s.b[3] = s.b[1];
            }
            return was;
        }

        int figure(int i, int h, int w, int m, int g) {
            if (!in(i, 0, s.count()) || !in(h, 1, 40) || !in(w, 0, 1) || !in(m, 0, 119) || !in(g, 1, 9)) {
                return OUTSIDE;
            }
            if (s.count() == 10) {
                return FULL;
            }
            change();
            s.figs.add(i, new int[] {h, w, m, g});
            return s.count();
        }

        int drop(int f) {
            if (!has(f)) {
                return UNKNOWN;
            }
            change();
            s.figs.remove(f);
            return s.count();
        }

        int mention(int f, int line) {
            if (!has(f)) {
                return UNKNOWN;
            }
            if (!in(line, 0, 119)) {
                return OUTSIDE;
            }
            change();
            int was = s.figs.get(f)[2];
            s.figs.get(f)[2] = line;
            return was;
        }

        int drift(int n, int seed) {
            if (!in(n, 0, 10) || !in(seed, 1, 999999)) {
                return OUTSIDE;
            }
            change();
            s.figs.clear();
            long x = seed;
            for (int k = 0; k < n; k++) {
                int[] by = {Math.max(1, s.b[3]), 2, Math.max(1, s.b[0]), 9};
                int[] more = {1, 0, 0, 1};
                int[] fig = new int[4];
                for (int part = 0; part < 4; part++) {
                    x = x * 16807 % 2147483647;
                    fig[part] = (int) (x % by[part]) + more[part];
                }
                s.figs.add(fig);
            }
            return now().cost();
        }

        int undo() {
            if (undo.isEmpty()) {
                return NOT;
            }
            s = undo.removeLast();
            known = null;
            return undo.size();
        }

        int told(int what) {
            Laid best = now().best, greedy = now().greedy;
            return switch (what) {
                case 0, 1, 2, 3, 4, 5 -> s.b[what];
                case 6 -> s.count();
                case 7 -> s.clash();
                case 8 -> now().cost();
                case 9 -> best == null ? NONE : best.pages;
                case 10 -> greedy == null ? NONE : greedy.cost();
                case 11 -> greedy == null ? NONE : greedy.pages;
                case 12 -> now().places;
                case 13 -> best == null ? NONE : best.heavy();
                case 14 -> hand.size();
                case 15 -> undo.size();
                default -> OUTSIDE;
            };
        }

        int figureOf(int f, int what) {
            if (!has(f)) {
                return UNKNOWN;
            }
            if (!in(what, 0, 7)) {
                return OUTSIDE;
            }
            if (what < 4) {
                return s.figs.get(f)[what];
            }
            Laid best = now().best, greedy = now().greedy;
            if (best == null) {
                return NONE;
            }
            return switch (what) {
                case 4 -> best.pageOfFig[f];
                case 5 -> best.mentionPage(f);
                case 6 -> best.cost(f);
                default -> greedy.pageOfFig[f];
            };
        }

        int page(int p, int what) {
            Laid best = now().best;
            if (best == null || !in(p, 0, best.pages - 1)) {
                return UNKNOWN;
            }
            int lines = best.lineAt[p + 1] - best.lineAt[p];
            int takes = s.takes(best.figAt[p], best.numbers[p]);
            int waiting = 0, early = 0;
            for (int k = 0; k < s.count(); k++) {
                waiting |= best.mentionPage(k) <= p && best.pageOfFig[k] > p ? 1 << k : 0;
                early |= best.mentionPage(k) > p && best.pageOfFig[k] <= p ? 1 << k : 0;
            }
            return switch (what) {
                case 0 -> best.numbers[p];
                case 1 -> lines;
                case 2 -> lines == 0 ? NONE : best.lineAt[p];
                case 3 -> takes;
                case 4 -> s.b[1] * s.b[2] - takes - lines;
                case 5 -> waiting;
                case 6 -> early;
                default -> OUTSIDE;
            };
        }

        int pageOf(int line) {
            if (!in(line, 0, s.lines() - 1)) {
                return UNKNOWN;
            }
            return now().best == null ? NOT : now().best.pageOfLine[line];
        }

        int fits(int f, int n) {
            if (n > 0 && !has(f)) {
                return UNKNOWN;
            }
            if (n == 0) {
                return 1;
            }
            if (n < 0 || n > s.count() - f) {
                return OUTSIDE;
            }
            return s.fit(f, n) ? 1 : 0;
        }

        int without(int f) {
            if (!has(f)) {
                return UNKNOWN;
            }
            State t = s.copy();
            t.figs.remove(f);
            return answer(t).cost();
        }

        int moved(int f, int line) {
            if (!has(f)) {
                return UNKNOWN;
            }
            if (!in(line, 0, 119)) {
                return OUTSIDE;
            }
            State t = s.copy();
            t.figs.get(f)[2] = line;
            return answer(t).cost();
        }

        int from(int lines, int figures, int what) {
            if (!in(what, 0, 1)) {
                return OUTSIDE;
            }
            if (!in(lines, 0, 120) || !in(figures, 0, 10) || !now().from.containsKey(lines * 100 + figures)) {
                return NONE;
            }
            int[] value = now().from.get(lines * 100 + figures);
            if (value == null) {
                Way end = forward(s, lines, figures).get(s.lines() * 100 + s.count());
                value = new int[] {end.cost, end.pages};
            }
            return value[what];
        }

        int hand(int n) {
            if (!in(n, 0, 4)) {
                return OUTSIDE;
            }
            if (hand.size() == 30) {
                return FULL;
            }
            hand.add(n);
            return hand.size();
        }

        int clear() {
            int were = hand.size();
            hand.clear();
            return were;
        }

        int judge(int what) {
            if (!in(what, 0, 1)) {
                return OUTSIDE;
            }
            int l = 0, f = 0, wrong = 0;
            for (int p = 0; p < hand.size() && wrong == 0; p++) {
                boolean ended = l == s.lines() && f == s.count();
                int n = hand.get(p);
                if (ended || !s.may(l, f, n)) {
                    wrong = p + 1;
                } else {
                    l = s.behind(l, f, n);
                    f += n;
                }
            }
            if (wrong == 0 && (l < s.lines() || f < s.count())) {
                wrong = hand.size() + 1;
            }
            if (what == 0) {
                return wrong;
            }
            return wrong == 0 ? new Laid(s, hand).cost() : NONE;
        }

        int keep(int i) {
            if (!in(i, 0, 1)) {
                return UNKNOWN;
            }
            images[i] = s.copy();
            undo.clear();
            return s.count();
        }

        int goBack(int i) {
            if (!in(i, 0, 1)) {
                return UNKNOWN;
            }
            if (images[i] == null) {
                return NOT;
            }
            s = images[i].copy();
            known = null;
            undo.clear();
            return s.count();
        }
    }

    /** Draws calls and compares the two answers. */
    static final class Run {
        final int number;
        final Random r;
        final Model m = new Model();
        final NearFigures x = new NearFigures();
        final StringBuilder told = new StringBuilder();
        boolean wrong = false;

        Run(int number) {
            this.number = number;
            r = new Random(number * 7919L + 3);
        }

        /** Mostly from low to high, now and then just out of it or far off. */
        int num(int low, int high) {
            int way = r.nextInt(60);
            if (way == 0) {
                return low - 1;
            }
            if (way == 1) {
                return high + 1;
            }
            if (way == 2) {
                int[] far = {Integer.MIN_VALUE, Integer.MAX_VALUE, -5, 500, 1 << 20};
                return far[r.nextInt(far.length)];
            }
            return high < low ? low : low + r.nextInt(high - low + 1);
        }

        int fig() {
            return num(0, m.s.count() - 1);
        }

        void due(long got, long want, String name, int... args) {
            String call = name + Arrays.toString(args);
            told.append(call).append(" = ").append(got).append('\n');
            if (got != want && !wrong) {
                wrong = true;
                System.out.println("run " + number + ": " + call + " answered " + got + ", due is " + want
                        + "; the calls:\n" + told);
            }
        }

        void layout() {
            int what = num(0, 5);
            int[][] bounds = {{0, 120}, {6, r.nextBoolean() ? 12 : 40}, {1, 2}, {0, m.s.b[1]}, {1, 4}, {0, 1}};
            int v = what < 0 || what > 5 ? 0 : num(bounds[what][0], bounds[what][1]);
            // Most of what there is to see is seen where the figures have room.
            if (what == 3 && v < 3 && r.nextInt(4) != 0) {
                v = m.s.b[1];
            }
            due(x.layout(what, v), m.layout(what, v), "layout", what, v);
        }

        void figure() {
            int i = num(0, m.s.count());
            int h = r.nextInt(12) == 0 ? num(1, 40) : num(1, Math.max(1, m.s.b[3] / (1 + r.nextInt(3))));
            int w = num(0, 1);
            int line = r.nextInt(8) == 0 ? num(0, 119) : num(0, Math.max(0, Math.min(119, m.s.lines())));
            int g = num(1, 9);
            due(x.figure(i, h, w, line, g), m.figure(i, h, w, line, g), "figure", i, h, w, line, g);
        }

        void plan() {
            due(x.clear(), m.clear(), "clear");
            Laid like = r.nextBoolean() ? m.now().best : m.now().greedy;
            int pages = like == null ? r.nextInt(6) : like.pages;
            int change = r.nextInt(3 * pages + 3);
            for (int p = 0; p < pages; p++) {
                int n = like == null || p == change ? r.nextInt(5) : like.numbers[p];
                due(x.hand(n), m.hand(n), "hand", n);
            }
            if (r.nextInt(6) == 0) {
                due(x.hand(0), m.hand(0), "hand", 0);
            }
            due(x.judge(0), m.judge(0), "judge", 0);
            due(x.judge(1), m.judge(1), "judge", 1);
        }

        void from() {
            int lines = num(0, 120), figures = num(0, 10), what = num(0, 1);
            List<Integer> places = new ArrayList<>(m.now().from.keySet());
            if (!places.isEmpty() && r.nextInt(3) != 0) {
                int place = places.get(r.nextInt(places.size()));
                lines = place / 100;
                figures = place % 100;
            }
            due(x.from(lines, figures, what), m.from(lines, figures, what), "from", lines, figures, what);
        }

        void change() {
            switch (r.nextInt(12)) {
                case 0, 1, 2 -> layout();
                case 3, 4, 5, 6 -> figure();
                case 7 -> {
                    int f = fig();
                    due(x.drop(f), m.drop(f), "drop", f);
                }
                case 8 -> {
                    int f = fig(), line = num(0, 119);
                    due(x.mention(f, line), m.mention(f, line), "mention", f, line);
                }
                case 9 -> {
                    int n = num(0, 10), seed = num(1, 999999);
                    due(x.drift(n, seed), m.drift(n, seed), "drift", n, seed);
                }
                case 10 -> due(x.undo(), m.undo(), "undo");
                default -> {
                    int i = num(0, 1);
                    if (r.nextBoolean()) {
                        due(x.keep(i), m.keep(i), "keep", i);
                    } else {
                        due(x.goBack(i), m.goBack(i), "goBack", i);
                    }
                }
            }
        }

        void ask() {
            switch (r.nextInt(16)) {
                case 0, 1, 2, 3 -> {
                    int what = num(0, 15);
                    due(x.told(what), m.told(what), "told", what);
                }
                case 4, 5, 6 -> {
                    int f = fig(), what = num(0, 7);
                    due(x.figureOf(f, what), m.figureOf(f, what), "figureOf", f, what);
                }
                case 7, 8, 9 -> {
                    int p = num(0, Math.max(0, m.told(9) - 1)), what = num(0, 6);
                    due(x.page(p, what), m.page(p, what), "page", p, what);
                }
                case 10 -> {
                    int line = num(0, m.s.lines() - 1);
                    due(x.pageOf(line), m.pageOf(line), "pageOf", line);
                }
                case 11 -> {
                    int f = fig(), n = num(0, Math.min(5, m.s.count()));
                    due(x.fits(f, n), m.fits(f, n), "fits", f, n);
                }
                case 12 -> due(x.ways(), m.now().ways, "ways");
                case 13 -> {
                    int f = fig();
                    due(x.without(f), m.without(f), "without", f);
                }
                case 14 -> {
                    int f = fig(), line = num(0, 119);
                    due(x.moved(f, line), m.moved(f, line), "moved", f, line);
                }
                default -> from();
            }
        }

        void go() {
            int calls = 0;
            while (calls < CALLS - 40 && !wrong) {
                int before = told.length();
                int way = r.nextInt(100);
                if (way < 30) {
                    change();
                } else if (way < 96) {
                    ask();
                } else if (way < 98) {
                    plan();
                } else if (way == 98) {
                    int n = num(0, 4);
                    due(x.hand(n), m.hand(n), "hand", n);
                } else {
                    int what = num(0, 1);
                    due(x.judge(what), m.judge(what), "judge", what);
                }
                for (int k = before; k < told.length(); k++) {
                    calls += told.charAt(k) == '\n' ? 1 : 0;
                }
            }
        }
    }

    public static void main(String[] args) {
        int wrong = 0;
        for (int number = 0; number < RUNS; number++) {
            Run run = new Run(number);
            run.go();
            wrong += run.wrong ? 1 : 0;
        }
        System.out.println(RUNS + " runs, " + wrong + " wrong; plans tried one by one " + tried + " times, from the front "
                + fronted + " times");
        if (wrong != 0) {
            System.exit(1);
        }
    }
}
