import java.util.ArrayList;
import java.util.List;

/** What the tests of the boundary cases share: sentences with their answers, and twins that show that nothing changed. */
final class Cases {
    static final int NONE = -1, UNKNOWN = -1000000001, OUTSIDE = -1000000002, NOT = -1000000003, FULL = -1000000004;
    static final int LOW = Integer.MIN_VALUE, HIGH = Integer.MAX_VALUE;

    interface Steps {
        void on(NearFigures x);
    }

    interface Call {
        long on(NearFigures x);
    }

    interface CallOf {
        long on(NearFigures x, int f);
    }

    interface View {
        List<Long> of(NearFigures x);
    }

    private static final List<View> VIEWS = List.of(Cases::answersNow, Cases::answersUndone, Cases::answersOfImages);
    private static String sentence = "";
    private static int sentences, answers, wrong;

    private Cases() {
    }

    /** Begins the test of one boundary case; where is a part of the terms ("1", "2", "3") or a promise ("P7"). */
    static void sentence(String where, String words) {
        sentence = where + ": " + words;
        sentences++;
    }

    static void due(String call, long got, long want) {
        answers++;
        if (got != want) {
            wrong++;
            System.out.println(sentence + ": " + call + " answered " + got + ", due is " + want);
        }
    }

    static void end() {
        System.out.println(sentences + " boundary cases, " + answers + " answers, " + wrong + " wrong");
        if (wrong != 0) {
            System.exit(1);
        }
    }

    static NearFigures after(Steps ahead) {
        NearFigures x = new NearFigures();
        ahead.on(x);
        return x;
    }

    /** The call is answered so, and nothing has changed by it. */
    static void stays(Steps ahead, String name, Call call, long want) {
        for (View view : VIEWS) {
            NearFigures heard = after(ahead);
            due(name, call.on(heard), want);
            List<Long> with = view.of(heard), without = view.of(after(ahead));
            due(name + " and how much is seen then", with.size(), without.size());
            for (int k = 0; k < Math.min(with.size(), without.size()); k++) {
                due(name + " and what is seen then, " + k, with.get(k), without.get(k));
            }
            // The promises hold for 512 calls; the steps ahead are some 60 at most.
            due("calls are few", with.size() < 440 ? 0 : with.size(), 0);
        }
    }

    private static void addSetting(NearFigures x, List<Long> seen) {
        for (int what = 0; what <= 6; what++) {
            seen.add((long) x.told(what));
        }
        for (int f = 0; f < 10; f++) {
            for (int what = 0; what <= 3; what++) {
                seen.add((long) x.figureOf(f, what));
            }
        }
    }

    private static List<Long> answersNow(NearFigures x) {
        List<Long> seen = new ArrayList<>();
        addSetting(x, seen);
        for (int what = 7; what <= 15; what++) {
            seen.add((long) x.told(what));
        }
        for (int f = 0; f < 10; f++) {
            seen.add((long) x.figureOf(f, 4));
            seen.add((long) x.figureOf(f, 6));
            seen.add((long) x.figureOf(f, 7));
            seen.add((long) x.without(f));
            seen.add((long) x.moved(f, 0));
            seen.add((long) x.fits(f, 2));
        }
        for (int p = 0; p < 12; p++) {
            for (int what = 0; what <= 6; what++) {
                seen.add((long) x.page(p, what));
            }
        }
        seen.add((long) x.pageOf(0));
        seen.add((long) x.from(0, 0, 0));
        seen.add((long) x.from(0, 0, 1));
        seen.add(x.ways());
        seen.add((long) x.judge(0));
        seen.add((long) x.judge(1));
        seen.add((long) x.hand(0));
        seen.add((long) x.clear());
        return seen;
    }

    private static List<Long> answersUndone(NearFigures x) {
        List<Long> seen = new ArrayList<>();
        for (int k = 0; k < 7; k++) {
            seen.add((long) x.undo());
            addSetting(x, seen);
        }
        return seen;
    }

    private static List<Long> answersOfImages(NearFigures x) {
        List<Long> seen = new ArrayList<>();
        for (int i = 0; i < 2; i++) {
            seen.add((long) x.goBack(i));
            addSetting(x, seen);
        }
        return seen;
    }

    /** told(0) and on are as given. */
    static void told(NearFigures x, int... wants) {
        for (int what = 0; what < wants.length; what++) {
            due("told(" + what + ")", x.told(what), wants[what]);
        }
    }

    static void figureOf(NearFigures x, int f, int... wants) {
        for (int what = 0; what < wants.length; what++) {
            due("figureOf(" + f + ", " + what + ")", x.figureOf(f, what), wants[what]);
        }
    }

    static void page(NearFigures x, int p, int... wants) {
        for (int what = 0; what < wants.length; what++) {
            due("page(" + p + ", " + what + ")", x.page(p, what), wants[what]);
        }
    }

    /** BEST has so many figures on each page, and no page more. */
    static void best(NearFigures x, int cost, int... numbers) {
        due("COST of BEST", x.told(8), cost);
        due("PAGES of BEST", x.told(9), numbers.length);
        for (int p = 0; p < numbers.length; p++) {
            due("page(" + p + ", 0)", x.page(p, 0), numbers[p]);
        }
        due("a page behind the last", x.page(numbers.length, 0), UNKNOWN);
    }

    /** The pages told by hand become these, and are judged so. */
    static void judged(NearFigures x, int want, int cost, int... numbers) {
        x.clear();
        for (int n : numbers) {
            x.hand(n);
        }
        due("judge(0) of " + java.util.Arrays.toString(numbers), x.judge(0), want);
        due("judge(1) of " + java.util.Arrays.toString(numbers), x.judge(1), cost);
    }

    /** L, H, C, T, M, EARLY. */
    static void bounds(NearFigures x, int... values) {
        for (int what : new int[] {0, 1, 2, 3, 4, 5}) {
            x.layout(what, values[what]);
        }
    }

    /** Narrow figures of these heights (wide ones of the heights below 0), mentioned in line 0, of weight 1. */
    static void heights(NearFigures x, int... heights) {
        x.drift(0, 1);
        for (int k = 0; k < heights.length; k++) {
            x.figure(k, Math.abs(heights[k]), heights[k] < 0 ? 1 : 0, 0, 1);
        }
    }
}
