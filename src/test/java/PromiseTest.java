/** The promises 1 to 21 one by one: ordinary calls, the edges that the document names, and wrong ones. */
public final class PromiseTest {
    static final int NONE = -1, UNKNOWN = -1000000001, OUTSIDE = -1000000002, NOT = -1000000003, FULL = -1000000004;
    static final int LOW = Integer.MIN_VALUE, HIGH = Integer.MAX_VALUE;
    static int promise, checks, wrong;

    static void due(String call, long got, long want) {
        checks++;
        if (got != want) {
            wrong++;
            System.out.println("promise " + promise + ": " + call + " answered " + got + ", due is " + want);
        }
    }

    /** told(0) and on are as given. */
    static void told(NearFigures x, int... wants) {
        for (int what = 0; what < wants.length; what++) {
            due("told(" + what + ")", x.told(what), wants[what]);
        }
    }

    static void figureOf(NearFigures x, int f, int... wants) {
        for (int what = 0; what < wants.length; what++) {
            due("figureOf(" + f + ", " + what + ")", x.figureOf(f, what), wants[what]);
        }
    }

    static void page(NearFigures x, int p, int... wants) {
        for (int what = 0; what < wants.length; what++) {
            due("page(" + p + ", " + what + ")", x.page(p, what), wants[what]);
        }
    }

    /** Narrow figures of these heights (wide ones of the heights below 0), mentioned in line 0, of weight 1. */
    static void heights(NearFigures x, int... heights) {
        x.drift(0, 1);
        for (int k = 0; k < heights.length; k++) {
            x.figure(k, Math.abs(heights[k]), heights[k] < 0 ? 1 : 0, 0, 1);
        }
    }

    static void hand(NearFigures x, int... numbers) {
        x.clear();
        for (int n : numbers) {
            x.hand(n);
        }
    }

    static void newObject() {
        NearFigures x = new NearFigures();
        told(x, 40, 10, 2, 6, 3, 0, 0, NONE, 0, 2, 0, 2, 3, NONE, 0, 0);
        due("ways()", x.ways(), 1);
        due("undo()", x.undo(), NOT);
        due("goBack(0)", x.goBack(0), NOT);
        due("goBack(1)", x.goBack(1), NOT);
    }

    static void layout() {
        NearFigures x = new NearFigures();
        int[] was = {40, 10, 2, 6, 3, 0};
        int[][] right = {{0, 120, 40}, {40, 6, 10}, {1, 2}, {0, 10, 6}, {1, 4, 3}, {1, 0}};
        int[][] off = {{-1, 121, LOW, HIGH}, {5, 41, LOW, HIGH}, {0, 3, -1, HIGH}, {-1, 11, LOW, HIGH}, {0, 5, LOW, HIGH},
            {-1, 2, LOW, HIGH}};
        for (int what = 0; what < 6; what++) {
            int had = was[what];
            for (int v : right[what]) {
                due("layout(" + what + ", " + v + ")", x.layout(what, v), had);
                due("told(" + what + ")", x.told(what), v);
                had = v;
            }
            int undoable = x.told(15);
            for (int v : off[what]) {
                due("layout(" + what + ", " + v + ")", x.layout(what, v), OUTSIDE);
            }
            due("told(" + what + ") after refusals", x.told(what), had);
            due("told(15) after refusals", x.told(15), undoable);
        }
        for (int what : new int[] {-1, 6, LOW, HIGH}) {
            due("layout(" + what + ", 1)", x.layout(what, 1), OUTSIDE);
        }
        topKeepsWithinHeight();
        sameValueIsAChange();
    }

    static void topKeepsWithinHeight() {
        NearFigures x = new NearFigures();
        x.layout(1, 40);
        due("layout(3, 40)", x.layout(3, 40), 6);
        due("layout(3, 41)", x.layout(3, 41), OUTSIDE);
        due("layout(1, 8)", x.layout(1, 8), 40);
        due("T behind a lower H", x.told(3), 8);
        due("layout(1, 20)", x.layout(1, 20), 8);
        due("T behind a higher H", x.told(3), 8);
        x.undo();
        x.undo();
        due("T behind undo()", x.told(3), 40);
    }

    static void sameValueIsAChange() {
        NearFigures x = new NearFigures();
        due("layout(0, 40)", x.layout(0, 40), 40);
        due("told(15)", x.told(15), 1);
    }

    static void figure() {
        NearFigures x = new NearFigures();
        due("first", x.figure(0, 1, 0, 0, 1), 1);
        due("behind", x.figure(1, 40, 1, 119, 9), 2);
        due("ahead", x.figure(0, 2, 0, 7, 3), 3);
        due("between", x.figure(1, 3, 1, 8, 4), 4);
        figureOf(x, 0, 2, 0, 7, 3);
        figureOf(x, 1, 3, 1, 8, 4);
        figureOf(x, 2, 1, 0, 0, 1);
        figureOf(x, 3, 40, 1, 119, 9);
        int[][] off = {{5, 1, 0, 0, 1}, {-1, 1, 0, 0, 1}, {0, 0, 0, 0, 1}, {0, 41, 0, 0, 1}, {0, 1, -1, 0, 1}, {0, 1, 2, 0, 1},
            {0, 1, 0, -1, 1}, {0, 1, 0, 120, 1}, {0, 1, 0, 0, 0}, {0, 1, 0, 0, 10}, {HIGH, HIGH, HIGH, HIGH, HIGH},
            {LOW, LOW, LOW, LOW, LOW}};
        refuseFigures(x, off);
        due("told(6)", x.told(6), 4);
        due("told(15)", x.told(15), 4);
        for (int k = 5; k <= 10; k++) {
            due("figure " + k, x.figure(0, 1, 0, 0, 1), k);
        }
        due("an eleventh", x.figure(0, 1, 0, 0, 1), FULL);
        due("an eleventh behind all", x.figure(10, 1, 0, 0, 1), FULL);
        due("OUTSIDE is told ahead of FULL", x.figure(11, 1, 0, 0, 1), OUTSIDE);
        refuseFigures(x, new int[][] {{0, 0, 0, 0, 1}, {0, 1, 2, 0, 1}, {0, 1, 0, 120, 1}, {0, 1, 0, 0, 10}});
        due("told(6)", x.told(6), 10);
        figureOf(x, 9, 40, 1, 119, 9);
    }

    static void refuseFigures(NearFigures x, int[][] off) {
        for (int[] a : off) {
            due("figure" + java.util.Arrays.toString(a), x.figure(a[0], a[1], a[2], a[3], a[4]), OUTSIDE);
        }
    }

    static void drop() {
        NearFigures x = new NearFigures();
        due("none there", x.drop(0), UNKNOWN);
        heights(x, 1, 2, 3, 4);
        due("drop(1)", x.drop(1), 3);
        due("height 0", x.figureOf(0, 0), 1);
        due("height 1", x.figureOf(1, 0), 3);
        due("height 2", x.figureOf(2, 0), 4);
        for (int f : new int[] {-1, 3, LOW, HIGH}) {
            due("drop(" + f + ")", x.drop(f), UNKNOWN);
        }
        due("drop(2)", x.drop(2), 2);
        due("drop(0)", x.drop(0), 1);
        due("height", x.figureOf(0, 0), 3);
        due("drop(0)", x.drop(0), 0);
        due("drop(0)", x.drop(0), UNKNOWN);
        heights(x, 1, 1, 1, 1, 1, 1, 1, 1, 1, 2);
        due("the first of ten", x.drop(0), 9);
        due("the last", x.figureOf(8, 0), 2);
        due("drop(8)", x.drop(8), 8);
    }

    static void mention() {
        NearFigures x = new NearFigures();
        due("none there", x.mention(0, 0), UNKNOWN);
        x.figure(0, 4, 0, 5, 2);
        due("mention(0, 119)", x.mention(0, 119), 5);
        due("mention(0, 0)", x.mention(0, 0), 119);
        due("mention(0, 30)", x.mention(0, 30), 0);
        due("figureOf(0, 2)", x.figureOf(0, 2), 30);
        due("its page", x.figureOf(0, 5), 1);
        for (int line : new int[] {-1, 120, LOW, HIGH}) {
            due("mention(0, " + line + ")", x.mention(0, line), OUTSIDE);
            due("UNKNOWN is told ahead of OUTSIDE", x.mention(1, line), UNKNOWN);
        }
        due("mention(-1, 0)", x.mention(-1, 0), UNKNOWN);
        due("told(15)", x.told(15), 4);
        due("figureOf(0, 2)", x.figureOf(0, 2), 30);
    }

    static void drift() {
        NearFigures x = new NearFigures();
        x.figure(0, 1, 0, 0, 1);
        // 16807, 282475249, 1622650073, 984943658 come of 1: a wide figure of 2 lines, mentioned in line 33.
        due("drift(1, 1)", x.drift(1, 1), 0);
        figureOf(x, 0, 2, 1, 33, 3, 1, 1, 0, 1);
        due("told(6)", x.told(6), 1);
        due("drift(10, 7)", x.drift(10, 7), 175);
        due("drift(0, 999999)", x.drift(0, 999999), 0);
        due("told(6)", x.told(6), 0);
        int[][] off = {{-1, 1}, {11, 1}, {1, 0}, {1, 1000000}, {1, -1}, {LOW, HIGH}, {HIGH, LOW}};
        for (int[] a : off) {
            due("drift(" + a[0] + ", " + a[1] + ")", x.drift(a[0], a[1]), OUTSIDE);
        }
        due("told(15)", x.told(15), 4);
        due("undo()", x.undo(), 3);
        due("ten are there again", x.told(6), 10);
        due("drift(10, 999999)", x.drift(10, 999999), x.told(8));
        x.layout(0, 0);
        x.drift(1, 1);
        due("without lines the mention is 0", x.figureOf(0, 2), 0);
        x.layout(3, 0);
        due("without room there is no plan", x.drift(1, 1), NONE);
        due("without room the height is 1", x.figureOf(0, 0), 1);
    }

    static void undo() {
        NearFigures x = new NearFigures();
        due("undo()", x.undo(), NOT);
        for (int k = 1; k <= 8; k++) {
            x.layout(0, k);
            due("told(15)", x.told(15), Math.min(6, k));
        }
        for (int k = 7; k >= 2; k--) {
            due("undo()", x.undo(), k - 2);
            due("L", x.told(0), k);
        }
        due("undo()", x.undo(), NOT);
        due("L", x.told(0), 2);
        eachChangeIsUndone();
        refusedAndAskedAreNotUndone();
    }

    static void eachChangeIsUndone() {
        NearFigures x = new NearFigures();
        x.figure(0, 4, 0, 5, 2);
        x.figure(1, 5, 1, 6, 1);
        x.mention(1, 30);
        x.drop(0);
        x.drift(7, 99);
        x.layout(1, 6);
        due("layout()", x.undo(), 5);
        due("H", x.told(1), 10);
        due("drift()", x.undo(), 4);
        due("FIGURES", x.told(6), 1);
        figureOf(x, 0, 5, 1, 30, 1);
        due("drop()", x.undo(), 3);
        figureOf(x, 0, 4, 0, 5, 2);
        due("mention()", x.undo(), 2);
        figureOf(x, 1, 5, 1, 6, 1);
        due("COST", x.told(8), 1);
        due("figure()", x.undo(), 1);
        due("FIGURES", x.told(6), 1);
        due("figure()", x.undo(), 0);
        due("FIGURES", x.told(6), 0);
    }

    static void refusedAndAskedAreNotUndone() {
        NearFigures x = new NearFigures();
        x.figure(0, 4, 0, 5, 2);
        x.hand(1);
        x.hand(0);
        x.clear();
        x.hand(0);
        x.judge(0);
        x.without(0);
        x.moved(0, 3);
        x.layout(0, 121);
        x.figure(0, 0, 0, 0, 0);
        x.drop(1);
        x.mention(0, 120);
        x.drift(11, 1);
        due("undo()", x.undo(), 0);
        due("what is told by hand stays", x.told(14), 1);
        x.figure(0, 4, 0, 5, 2);
        x.keep(0);
        due("undo() behind keep()", x.undo(), NOT);
        x.drop(0);
        x.goBack(0);
        due("undo() behind goBack()", x.undo(), NOT);
        x.drop(0);
        due("undo()", x.undo(), 0);
        due("FIGURES", x.told(6), 1);
    }

    /** A figure of 4 lines mentioned in the last line: on its page there is no room for both. */
    static NearFigures lastLine(int early) {
        NearFigures x = new NearFigures();
        x.figure(0, 4, 0, 39, 2);
        x.layout(5, early);
        return x;
    }

    static void told() {
        NearFigures x = lastLine(0);
        told(x, 40, 10, 2, 6, 3, 0, 1, NONE, 2, 3, 2, 3, 4, 0, 0, 2);
        x.hand(1);
        told(lastLine(1), 40, 10, 2, 6, 3, 1, 1, NONE, 2, 3, 2, 3, 6, 0, 0, 2);
        due("told(14)", x.told(14), 1);
        for (int what : new int[] {-1, 16, LOW, HIGH}) {
            due("told(" + what + ")", x.told(what), OUTSIDE);
        }
        x.figure(1, 7, 1, 0, 1);
        x.figure(2, 8, 0, 0, 1);
        told(x, 40, 10, 2, 6, 3, 0, 3, 1, NONE, NONE, NONE, NONE, 0, NONE, 1, 4);
        x.drift(0, 1);
        x.layout(0, 0);
        told(x, 0, 10, 2, 6, 3, 0, 0, NONE, 0, 0, 0, 0, 1, NONE, 1, 6);
        heavyIsTheFirstOfLikeOnes();
        greedyIsNeverEarly();
        mentionsMoveOn();
        thirtyPages();
    }

    static void heavyIsTheFirstOfLikeOnes() {
        NearFigures x = new NearFigures();
        x.layout(0, 0);
        x.layout(4, 1);
        x.figure(0, 1, 0, 0, 9);
        x.figure(1, 1, 0, 0, 6);
        x.figure(2, 1, 0, 0, 3);
        due("like ones: 6 on page 1, 3 on page 2", x.told(13), 1);
        x.figure(3, 1, 0, 0, 3);
        due("3 on page 3", x.told(13), 3);
    }

    /** The plan that takes the most is bound to the mentions even where BEST is not. */
    static void greedyIsNeverEarly() {
        NearFigures x = new NearFigures();
        x.figure(0, 6, 0, 39, 1);
        x.figure(1, 6, 0, 0, 9);
        // Both wait for the last line and stand behind it: 1 and 9 times 2.
        told(x, 40, 10, 2, 6, 3, 0, 2, NONE, 19, 3, 19, 3);
        x.layout(5, 1);
        // Figure 0 is 2 pages early, so that figure 1 stands on page 0.
        told(x, 40, 10, 2, 6, 3, 1, 2, NONE, 2, 3, 19, 3);
        due("figure 1 in BEST", x.figureOf(1, 4), 0);
        due("figure 1 in GREEDY", x.figureOf(1, 7), 2);
    }

    /** One column of 10: a figure takes lines from its page, so that the next mention comes a page later. */
    static void mentionsMoveOn() {
        NearFigures x = new NearFigures();
        x.layout(2, 1);
        x.layout(0, 20);
        x.figure(0, 6, 0, 0, 1);
        x.figure(1, 6, 0, 9, 9);
        // 4 lines with figure 0; with figure 1 line 9 would not stand on page 1, so it does without; 4 lines, 2 lines.
        told(x, 20, 10, 1, 6, 3, 0, 2, NONE, 9, 4, 9, 4);
        x.mention(1, 7);
        told(x, 20, 10, 1, 6, 3, 0, 2, NONE, 0, 4, 0, 4);
        x.mention(1, 3);
        told(x, 20, 10, 1, 6, 3, 0, 2, NONE, 9, 4, 9, 4);
        x.mention(1, 14);
        told(x, 20, 10, 1, 6, 3, 0, 2, NONE, 0, 4, 0, 4);
    }

    /** The longest plan there is: 20 pages of 6 lines, 10 that a figure fills. */
    static void thirtyPages() {
        NearFigures x = new NearFigures();
        x.layout(0, 120);
        x.layout(1, 6);
        x.layout(2, 1);
        heights(x, 6, 6, 6, 6, 6, 6, 6, 6, 6, 6);
        told(x, 120, 6, 1, 6, 3, 0, 10, NONE, 55, 30, 55, 30, 221, 9);
        page(x, 29, 0, 6, 114, 0, 0, 0, 0);
        due("the last line", x.pageOf(119), 29);
        due("pages from the front on", x.from(0, 0, 1), 30);
        judged(x, 0, 55, 0, 1, 1, 1, 1, 1, 1, 1, 1, 1, 1, 0, 0, 0, 0, 0, 0, 0, 0, 0, 0, 0, 0, 0, 0, 0, 0, 0, 0, 0);
        judged(x, 30, NONE, 0, 1, 1, 1, 1, 1, 1, 1, 1, 1, 0, 0, 0, 0, 0, 0, 0, 0, 0, 0, 0, 0, 0, 0, 0, 0, 0, 0, 0, 0);
    }

    static void figureOf() {
        NearFigures x = lastLine(0);
        figureOf(x, 0, 4, 0, 39, 2, 2, 1, 2, 2);
        x.mention(0, 119);
        figureOf(x, 0, 4, 0, 119, 2, 2, 1, 2, 2);
        x.mention(0, 19);
        figureOf(x, 0, 4, 0, 19, 2, 1, 0, 2, 1);
        x.layout(5, 1);
        figureOf(x, 0, 4, 0, 19, 2, 1, 0, 2, 1);
        x.mention(0, 15);
        figureOf(x, 0, 4, 0, 15, 2, 0, 0, 0, 0);
        x.mention(0, 16);
        figureOf(x, 0, 4, 0, 16, 2, 1, 0, 2, 1);
        for (int f : new int[] {-1, 1, LOW, HIGH}) {
            due("figureOf(" + f + ", 0)", x.figureOf(f, 0), UNKNOWN);
            due("UNKNOWN is told ahead of OUTSIDE", x.figureOf(f, 8), UNKNOWN);
        }
        for (int what : new int[] {-1, 8, LOW, HIGH}) {
            due("figureOf(0, " + what + ")", x.figureOf(0, what), OUTSIDE);
        }
        x.layout(3, 3);
        figureOf(x, 0, 4, 0, 16, 2, NONE, NONE, NONE, NONE);
        x.layout(3, 6);
        x.layout(0, 0);
        figureOf(x, 0, 4, 0, 16, 2, 0, 0, 0, 0);
    }

    static void page() {
        NearFigures x = lastLine(0);
        page(x, 0, 0, 20, 0, 0, 0, 0, 0);
        page(x, 1, 0, 20, 20, 0, 0, 1, 0);
        page(x, 2, 1, 0, NONE, 4, 16, 0, 0);
        for (int p : new int[] {-1, 3, LOW, HIGH}) {
            due("page(" + p + ", 0)", x.page(p, 0), UNKNOWN);
            due("UNKNOWN is told ahead of OUTSIDE", x.page(p, 7), UNKNOWN);
        }
        for (int what : new int[] {-1, 7, LOW, HIGH}) {
            due("page(0, " + what + ")", x.page(0, what), OUTSIDE);
        }
        x.layout(5, 1);
        x.figure(1, 5, 1, 0, 9);
        // Figure 0 stands early on page 1 so that figure 1, in its order behind it, comes soon.
        due("figure 0", x.figureOf(0, 4), 0);
        due("figure 1", x.figureOf(1, 4), 1);
        page(x, 0, 1, 16, 0, 4, 0, 2, 1);
        page(x, 1, 1, 10, 16, 10, 0, 0, 1);
        page(x, 2, 0, 14, 26, 0, 6, 0, 0);
        x.layout(3, 4);
        due("no plan", x.page(0, 0), UNKNOWN);
        NearFigures y = new NearFigures();
        y.layout(0, 0);
        due("no page", y.page(0, 0), UNKNOWN);
    }

    static void pageOf() {
        NearFigures x = new NearFigures();
        x.figure(0, 4, 0, 5, 2);
        int[][] right = {{0, 0}, {15, 0}, {16, 1}, {35, 1}, {36, 2}, {39, 2}};
        for (int[] a : right) {
            due("pageOf(" + a[0] + ")", x.pageOf(a[0]), a[1]);
        }
        for (int line : new int[] {-1, 40, LOW, HIGH}) {
            due("pageOf(" + line + ")", x.pageOf(line), UNKNOWN);
        }
        x.layout(3, 3);
        due("no plan", x.pageOf(0), NOT);
        due("UNKNOWN is told ahead of NOT", x.pageOf(40), UNKNOWN);
        x.layout(0, 0);
        due("no line", x.pageOf(0), UNKNOWN);
    }

    static void fits() {
        NearFigures x = new NearFigures();
        x.layout(4, 4);
        // The last number: whether they stand together on two columns with 6 lines of figures each.
        int[][] two = {{3, 3, 3, 3, 1}, {4, 4, 2, 2, 1}, {5, 5, 1, 1, 1}, {4, 3, 3, 2, 1}, {5, 4, 2, 1, 1}, {1, 6, 1, 4, 1},
            {5, 3, 2, 2, 0}, {6, 6, 1, 0}, {4, 4, 4, 0}, {-6, 1}, {-6, 1, 0}, {-2, 4, 4, 1}, {4, -2, 2, 2, 1}, {4, -2, 5, 0},
            {-3, -3, 1}, {-3, -3, 1, 0}, {-2, -2, -2, 1}, {7, 0}, {-7, 0}, {6, 6, 1}};
        for (int[] row : two) {
            expectFit(x, row);
        }
        x.layout(2, 1);
        int[][] one = {{3, 3, 1}, {3, -3, 1}, {4, 3, 0}, {1, 1, 2, 2, 1}, {1, 1, 2, 3, 0}, {6, 1}, {-6, 1}, {7, 0}};
        for (int[] row : one) {
            expectFit(x, row);
        }
        heights(x, 1, 1, 1, 1, 1);
        due("five", x.fits(0, 5), 0);
        due("four", x.fits(1, 4), 1);
        x.layout(4, 2);
        due("three where two may be", x.fits(0, 3), 0);
        due("two where two may be", x.fits(3, 2), 1);
        due("more than there are", x.fits(3, 3), OUTSIDE);
        due("far more", x.fits(0, HIGH), OUTSIDE);
        due("below 0", x.fits(0, -1), OUTSIDE);
        due("below 0 of no figure", x.fits(9, LOW), OUTSIDE);
        due("of no figure", x.fits(5, 1), UNKNOWN);
        due("of no figure", x.fits(-1, 1), UNKNOWN);
        due("UNKNOWN is told ahead of OUTSIDE", x.fits(HIGH, HIGH), UNKNOWN);
        for (int f : new int[] {0, 4, 5, -1, HIGH, LOW}) {
            due("fits(" + f + ", 0)", x.fits(f, 0), 1);
        }
    }

    static void expectFit(NearFigures x, int[] row) {
        int n = row.length - 1;
        heights(x, java.util.Arrays.copyOf(row, n));
        due("fits(0, " + n + ") of " + java.util.Arrays.toString(row), x.fits(0, n), row[n]);
    }

    static void ways() {
        NearFigures x = new NearFigures();
        due("no figure", x.ways(), 1);
        x.figure(0, 4, 0, 19, 1);
        due("only late", x.ways(), 1);
        x.layout(5, 1);
        due("late or early", x.ways(), 2);
        due("COST", x.told(8), 1);
        due("the first has fewer figures on page 0", x.page(0, 0), 0);
        due("and more on page 1", x.page(1, 0), 1);
        x.layout(3, 3);
        due("no plan", x.ways(), 0);
        x.layout(0, 0);
        x.drift(0, 1);
        due("no page", x.ways(), 1);
    }

    static void without() {
        NearFigures x = new NearFigures();
        due("none there", x.without(0), UNKNOWN);
        x.figure(0, 6, 0, 39, 1);
        x.figure(1, 6, 0, 0, 9);
        // Figure 1 must wait for figure 0, which must wait for the last line.
        due("COST", x.told(8), 19);
        due("without(0)", x.without(0), 0);
        due("without(1)", x.without(1), 1);
        due("COST stays", x.told(8), 19);
        due("FIGURES stay", x.told(6), 2);
        due("told(15)", x.told(15), 2);
        x.figure(2, 7, 0, 0, 1);
        due("without the clash", x.without(2), 19);
        due("with the clash", x.without(0), NONE);
        for (int f : new int[] {-1, 3, LOW, HIGH}) {
            due("without(" + f + ")", x.without(f), UNKNOWN);
        }
    }

    static void moved() {
        NearFigures x = new NearFigures();
        due("none there", x.moved(0, 0), UNKNOWN);
        x.figure(0, 6, 0, 39, 1);
        x.figure(1, 6, 0, 0, 9);
        due("moved(0, 0)", x.moved(0, 0), 0);
        due("moved(0, 39)", x.moved(0, 39), 19);
        due("moved(0, 119)", x.moved(0, 119), 19);
        due("moved(1, 20)", x.moved(1, 20), 10);
        due("MENTION stays", x.figureOf(1, 2), 0);
        due("COST stays", x.told(8), 19);
        due("told(15)", x.told(15), 2);
        for (int line : new int[] {-1, 120, LOW, HIGH}) {
            due("moved(0, " + line + ")", x.moved(0, line), OUTSIDE);
            due("UNKNOWN is told ahead of OUTSIDE", x.moved(2, line), UNKNOWN);
        }
        due("moved(-1, 0)", x.moved(-1, 0), UNKNOWN);
        x.layout(3, 5);
        due("no plan", x.moved(0, 0), NONE);
    }

    static void from() {
        NearFigures x = lastLine(1);
        // Lines, figures, cost, pages: what waits or is early at the place's own page's end was paid ahead of it.
        int[][] places = {{0, 0, 2, 3}, {20, 0, 2, 2}, {16, 1, 2, 2}, {40, 0, 0, 1}, {36, 1, 0, 1}, {40, 1, 0, 0}};
        for (int[] a : places) {
            due("from(" + a[0] + ", " + a[1] + ", 0)", x.from(a[0], a[1], 0), a[2]);
            due("from(" + a[0] + ", " + a[1] + ", 1)", x.from(a[0], a[1], 1), a[3]);
        }
        due("PLACES", x.told(12), places.length);
        int[][] none = {{0, 1}, {16, 0}, {36, 0}, {41, 0}, {40, 2}, {-1, 0}, {0, -1}, {LOW, LOW}, {HIGH, HIGH}, {0, 11}, {120, 10}};
        for (int[] a : none) {
            due("from(" + a[0] + ", " + a[1] + ", 0)", x.from(a[0], a[1], 0), NONE);
            due("from(" + a[0] + ", " + a[1] + ", 1)", x.from(a[0], a[1], 1), NONE);
        }
        for (int what : new int[] {-1, 2, LOW, HIGH}) {
            due("from(0, 0, " + what + ")", x.from(0, 0, what), OUTSIDE);
            due("from(-1, 0, " + what + ")", x.from(-1, 0, what), OUTSIDE);
        }
        x.layout(5, 0);
        due("too early", x.from(16, 1, 0), NONE);
        x.layout(3, 3);
        due("no plan", x.from(0, 0, 0), NONE);
        due("no plan", x.from(0, 0, 1), NONE);
    }

    static void hand() {
        NearFigures x = new NearFigures();
        for (int n : new int[] {-1, 5, LOW, HIGH}) {
            due("hand(" + n + ")", x.hand(n), OUTSIDE);
        }
        for (int k = 1; k <= 30; k++) {
            due("hand()", x.hand(k % 5), k);
        }
        due("a page more", x.hand(0), FULL);
        due("OUTSIDE is told ahead of FULL", x.hand(5), OUTSIDE);
        due("told(14)", x.told(14), 30);
    }

    static void clear() {
        NearFigures x = new NearFigures();
        due("clear()", x.clear(), 0);
        hand(x, 1, 2, 3);
        due("clear()", x.clear(), 3);
        due("told(14)", x.told(14), 0);
        due("clear()", x.clear(), 0);
        due("hand(0)", x.hand(0), 1);
    }

    static void judge() {
        NearFigures x = new NearFigures();
        x.layout(4, 4);
        heights(x, 4, 4, 4);
        x.mention(2, 30);
        judged(x, 0, 1, 2, 0, 1);
        judged(x, 0, 2, 1, 1, 1);
        judged(x, 1, NONE, 3);
        judged(x, 1, NONE, 4);
        judged(x, 1, NONE);
        judged(x, 2, NONE, 2);
        judged(x, 2, NONE, 2, 1);
        judged(x, 4, NONE, 2, 0, 0);
        judged(x, 2, NONE, 2, 2, 0);
        judged(x, 4, NONE, 2, 0, 0, 0);
        judged(x, 4, NONE, 2, 0, 1, 0);
        judged(x, 4, NONE, 2, 0, 1, 1);
        for (int what : new int[] {-1, 2, LOW, HIGH}) {
            due("judge(" + what + ")", x.judge(what), OUTSIDE);
        }
        judgedEarly();
        judgedWithoutLines();
    }

    static void judged(NearFigures x, int want, int cost, int... numbers) {
        hand(x, numbers);
        due("judge(0) of " + java.util.Arrays.toString(numbers), x.judge(0), want);
        due("judge(1) of " + java.util.Arrays.toString(numbers), x.judge(1), cost);
    }

    static void judgedEarly() {
        NearFigures x = lastLine(0);
        judged(x, 1, NONE, 1, 0, 0);
        judged(x, 2, NONE, 0, 1, 0);
        judged(x, 0, 2, 0, 0, 1);
        judged(x, 3, NONE, 0, 0, 0);
        x.layout(5, 1);
        judged(x, 0, 4, 1, 0, 0);
        judged(x, 0, 2, 0, 1, 0);
        judged(x, 4, NONE, 0, 1, 0, 0);
    }

    static void judgedWithoutLines() {
        NearFigures x = new NearFigures();
        x.layout(0, 0);
        judged(x, 0, 0);
        judged(x, 1, NONE, 0);
        judged(x, 1, NONE, 1);
        x.figure(0, 6, 0, 5, 3);
        x.figure(1, 6, 0, 0, 2);
        judged(x, 0, 0, 2);
        judged(x, 0, 2, 1, 1);
        judged(x, 1, NONE, 0, 2);
        x.layout(4, 1);
        judged(x, 1, NONE, 2);
    }

    static void keep() {
        NearFigures x = new NearFigures();
        due("keep(0)", x.keep(0), 0);
        x.figure(0, 4, 0, 5, 2);
        due("keep(1)", x.keep(1), 1);
        due("nothing can be undone", x.told(15), 0);
        x.figure(0, 4, 0, 5, 2);
        for (int i : new int[] {-1, 2, LOW, HIGH}) {
            due("keep(" + i + ")", x.keep(i), UNKNOWN);
        }
        due("told(15)", x.told(15), 1);
        due("keep(1) anew", x.keep(1), 2);
        due("goBack(0)", x.goBack(0), 0);
        due("goBack(1)", x.goBack(1), 2);
    }

    static void goBack() {
        NearFigures x = new NearFigures();
        for (int i : new int[] {-1, 2, LOW, HIGH}) {
            due("goBack(" + i + ")", x.goBack(i), UNKNOWN);
        }
        x.layout(0, 50);
        x.layout(1, 12);
        x.layout(2, 1);
        x.layout(3, 7);
        x.layout(4, 2);
        x.layout(5, 1);
        x.figure(0, 4, 1, 5, 2);
        x.keep(0);
        due("goBack(1)", x.goBack(1), NOT);
        int cost = x.told(8);
        x.drift(9, 4);
        x.layout(0, 7);
        x.layout(1, 6);
        x.layout(2, 2);
        x.layout(4, 1);
        x.layout(5, 0);
        x.hand(3);
        due("goBack(0)", x.goBack(0), 1);
        told(x, 50, 12, 1, 7, 2, 1, 1, NONE, cost);
        figureOf(x, 0, 4, 1, 5, 2);
        due("nothing can be undone", x.told(15), 0);
        due("what is told by hand stays", x.told(14), 1);
        x.mention(0, 9);
        x.drop(0);
        due("the image stays as it was", x.goBack(0), 1);
        due("MENTION", x.figureOf(0, 2), 5);
        due("the other is not kept", x.goBack(1), NOT);
    }

    static void run(int number) {
        promise = number;
        switch (number) {
            case 1 -> newObject();
            case 2 -> layout();
            case 3 -> figure();
            case 4 -> drop();
            case 5 -> mention();
            case 6 -> drift();
            case 7 -> undo();
            case 8 -> told();
            case 9 -> figureOf();
            case 10 -> page();
            case 11 -> pageOf();
            case 12 -> fits();
            case 13 -> ways();
            case 14 -> without();
            case 15 -> moved();
            case 16 -> from();
            case 17 -> hand();
            case 18 -> clear();
            case 19 -> judge();
            case 20 -> keep();
            default -> goBack();
        }
    }

    public static void main(String[] args) {
        for (int number = 1; number <= 21; number++) {
            run(number);
        }
        System.out.println(checks + " answers, " + wrong + " wrong");
        if (wrong != 0) {
            System.exit(1);
        }
    }
}
