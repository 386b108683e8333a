import java.math.BigInteger;

/**
 * The boundary cases of the terms: nothing there, all full, what just fits and just does not, likes among plans, the
 * oldest change that is lost. One sentence of the document, one test.
 */
public final class EdgeTest {
    static final int NONE = Cases.NONE, UNKNOWN = Cases.UNKNOWN, OUTSIDE = Cases.OUTSIDE, NOT = Cases.NOT;

    // ---- 1 the text

    static void nothingThere() {
        Cases.sentence("2", "without LINES and FIGURES: no PAGE");
        NearFigures x = new NearFigures();
        x.layout(0, 0);
        Cases.told(x, 0, 10, 2, 6, 3, 0, 0, NONE, 0, 0, 0, 0, 1, NONE, 0, 1);
        Cases.best(x, 0);
        Cases.due("ways()", x.ways(), 1);
        Cases.due("pageOf(0)", x.pageOf(0), UNKNOWN);
        Cases.due("from(0, 0, 0)", x.from(0, 0, 0), 0);
        Cases.due("from(0, 0, 1)", x.from(0, 0, 1), 0);
        Cases.judged(x, 0, 0);
        Cases.judged(x, 1, NONE, 0);
        Cases.judged(x, 1, NONE, 1);
    }

    static void linesAlone() {
        Cases.sentence("2", "as many LINES as there is room for, or as many as are left");
        int[][] rows = {{1, 1, 1, 19}, {19, 1, 19, 1}, {20, 1, 20, 0}, {21, 2, 1, 19}, {40, 2, 20, 0}, {41, 3, 1, 19}, {120, 6, 20, 0}};
        for (int[] a : rows) {
            NearFigures x = new NearFigures();
            x.layout(0, a[0]);
            Cases.due("PAGES of " + a[0], x.told(9), a[1]);
            Cases.due("PLACES of " + a[0], x.told(12), a[1] + 1);
            Cases.page(x, a[1] - 1, 0, a[2], a[0] - a[2], 0, a[3], 0, 0);
        }
        Cases.sentence("1", "the smallest and the largest PAGE");
        NearFigures x = new NearFigures();
        Cases.bounds(x, 120, 6, 1, 6, 3, 0);
        Cases.due("PAGES", x.told(9), 20);
        Cases.due("pageOf(119)", x.pageOf(119), 19);
        Cases.bounds(x, 120, 40, 2, 6, 3, 0);
        Cases.due("PAGES", x.told(9), 2);
        Cases.page(x, 0, 0, 80, 0, 0, 0, 0, 0);
        Cases.page(x, 1, 0, 40, 80, 0, 40, 0, 0);
    }

    static void mentionBehindTheLastLine() {
        Cases.sentence("1", "a MENTION behind the last LINE counts as if it stood on the last PAGE of the LINES");
        for (int early : new int[] {0, 1}) {
            for (int line : new int[] {39, 40, 41, 119}) {
                NearFigures x = new NearFigures();
                x.layout(5, early);
                x.figure(0, 4, 0, line, 2);
                Cases.best(x, 2, 0, 0, 1);
                Cases.figureOf(x, 0, 4, 0, line, 2, 2, 1, 2, 2);
                Cases.due("WAITING behind the last PAGE of the LINES", x.page(1, 5), 1);
                Cases.due("WAITING ahead of it", x.page(0, 5), 0);
                Cases.judged(x, early == 1 ? 0 : 2, early == 1 ? 2 : NONE, 0, 1, 0);
                Cases.judged(x, early == 1 ? 0 : 1, early == 1 ? 4 : NONE, 1, 0, 0);
            }
        }
        Cases.sentence("1", "it is a LINE again when the text grows");
        NearFigures x = new NearFigures();
        x.figure(0, 4, 0, 50, 2);
        x.layout(0, 51);
        Cases.figureOf(x, 0, 4, 0, 50, 2, 2, 2, 0, 2);
        x.layout(0, 120);
        Cases.figureOf(x, 0, 4, 0, 50, 2, 2, 2, 0, 2);
        Cases.due("the last PAGE", x.told(9), 7);
        x.layout(0, 50);
        Cases.figureOf(x, 0, 4, 0, 50, 2, 2, 2, 0, 2);
        x.layout(0, 20);
        Cases.figureOf(x, 0, 4, 0, 50, 2, 1, 0, 2, 1);
    }

    static void mentionWithoutLines() {
        Cases.sentence("1", "PAGE 0, if there are none");
        for (int line : new int[] {0, 119}) {
            NearFigures x = new NearFigures();
            Cases.bounds(x, 0, 10, 2, 6, 1, 0);
            x.figure(0, 6, 1, line, 9);
            x.figure(1, 6, 0, line, 4);
            Cases.best(x, 4, 1, 1);
            Cases.figureOf(x, 0, 6, 1, line, 9, 0, 0, 0, 0);
            Cases.figureOf(x, 1, 6, 0, line, 4, 1, 0, 4, 1);
            Cases.page(x, 0, 1, 0, NONE, 12, 8, 2, 0);
            Cases.page(x, 1, 1, 0, NONE, 6, 14, 0, 0);
            x.layout(5, 1);
            Cases.best(x, 4, 1, 1);
        }
    }

    // ---- 1 fit

    static void fit(NearFigures x, int want, int... heights) {
        Cases.heights(x, heights);
        Cases.due("fits(0, " + heights.length + ") of " + java.util.Arrays.toString(heights), x.fits(0, heights.length), want);
    }

    static void mostOnAPage() {
        Cases.sentence("1", "they are M at most");
        for (int most = 1; most <= 4; most++) {
            NearFigures x = new NearFigures();
            x.layout(4, most);
            Cases.heights(x, 1, 1, 1, 1, 1);
            Cases.due("fits(0, M)", x.fits(0, most), 1);
            Cases.due("fits(0, M + 1)", x.fits(0, most + 1), 0);
            Cases.due("fits(5 - M, M)", x.fits(5 - most, most), 1);
            Cases.due("the first PAGE of BEST", x.page(0, 0), most);
            Cases.judged(x, most == 4 ? 2 : 1, NONE, most == 4 ? 4 : most + 1);
        }
    }

    static void topOfAColumn() {
        Cases.sentence("1", "in no column more than T lines: T just fits, one more does not");
        for (int top : new int[] {1, 6, 10}) {
            for (int columns : new int[] {1, 2}) {
                NearFigures x = new NearFigures();
                x.layout(3, top);
                x.layout(2, columns);
                fit(x, 1, top);
                fit(x, 0, top + 1);
                fit(x, 1, -top);
                fit(x, 0, -top - 1);
                fit(x, columns - 1, top, top);
                fit(x, 0, -top, 1);
                fit(x, 0, top, -1);
                fit(x, 0, -top, -1);
            }
        }
        Cases.sentence("1", "T 0: no FIGURE has room; T 40: the highest has");
        NearFigures x = new NearFigures();
        x.layout(3, 0);
        fit(x, 0, 1);
        fit(x, 0, -1);
        Cases.due("CLASH", x.told(7), 0);
        Cases.bounds(x, 40, 40, 2, 40, 3, 0);
        fit(x, 1, 40);
        fit(x, 1, -40);
        fit(x, 1, 40, 40);
        fit(x, 0, 40, 40, 1);
        x.layout(3, 39);
        fit(x, 0, 40);
    }

    static void givenToColumns() {
        Cases.sentence("1", "the narrow ones can be given to columns");
        NearFigures x = new NearFigures();
        x.layout(4, 4);
        fit(x, 1, 3, 3, 3, 3);
        fit(x, 1, 1, 6, 2, 3);
        fit(x, 1, 5, 4, 2, 1);
        fit(x, 0, 5, 5, 2);
        fit(x, 0, 4, 4, 4);
        fit(x, 0, 5, 3, 2, 2);
        Cases.sentence("1", "the wide ones and its own");
        fit(x, 1, -2, 4, 4);
        fit(x, 0, -2, 4, 5);
        fit(x, 0, -3, 4, 2);
        fit(x, 1, 4, 2, -2, 2);
        fit(x, 1, -2, -2, -2);
        fit(x, 1, -1, -2, 3, 3);
        fit(x, 0, -1, -2, 3, 4);
        Cases.sentence("1", "one column has all of them");
        x.layout(2, 1);
        fit(x, 1, 1, -2, 3);
        fit(x, 0, 1, -2, 4);
        fit(x, 1, 1, 1, 2, 2);
        fit(x, 0, 1, 1, 2, 3);
    }

    // ---- 2 a plan

    static void roomTaken() {
        Cases.sentence("2", "a wide one its height in each column");
        int[][] rows = {{2, 4, 4}, {2, -4, 8}, {1, 4, 4}, {1, -4, 4}};
        for (int[] a : rows) {
            NearFigures x = new NearFigures();
            x.layout(2, a[0]);
            Cases.heights(x, a[1]);
            int room = 10 * a[0] - a[2];
            Cases.page(x, 0, 1, room, 0, a[2], 0, 0, 0);
            Cases.due("the last LINE of PAGE 0", x.pageOf(room - 1), 0);
            Cases.due("the first LINE of PAGE 1", x.pageOf(room), 1);
        }
        Cases.sentence("2", "FIGURES that take all the room: a PAGE without a LINE");
        NearFigures x = new NearFigures();
        Cases.bounds(x, 10, 6, 2, 6, 3, 0);
        Cases.heights(x, -6);
        // With it on page 0 its mention would come on page 1, and it would be early.
        Cases.best(x, 1, 0, 1);
        Cases.page(x, 0, 0, 10, 0, 0, 2, 1, 0);
        Cases.page(x, 1, 1, 0, NONE, 12, 0, 0, 0);
        Cases.judged(x, 1, NONE, 1, 0);
        x.layout(5, 1);
        Cases.best(x, 1, 0, 1);
        Cases.due("ways()", x.ways(), 2);
        Cases.judged(x, 0, 1, 1, 0);
    }

    static void notAheadOfItsMention() {
        Cases.sentence("2", "with EARLY 0 no FIGURE stands ahead of the PAGE of its MENTION: on the same it may");
        NearFigures x = new NearFigures();
        x.figure(0, 4, 0, 15, 3);
        Cases.best(x, 0, 1, 0, 0);
        Cases.judged(x, 0, 0, 1, 0, 0);
        x.mention(0, 16);
        Cases.best(x, 3, 0, 1, 0);
        Cases.judged(x, 1, NONE, 1, 0, 0);
        x.mention(0, 35);
        Cases.best(x, 0, 0, 1, 0);
        x.mention(0, 36);
        Cases.best(x, 3, 0, 0, 1);
        Cases.sentence("2", "with EARLY 1 it may");
        x.layout(5, 1);
        x.mention(0, 16);
        Cases.judged(x, 0, 3, 1, 0, 0);
        Cases.due("ways()", x.ways(), 2);
        Cases.best(x, 3, 0, 1, 0);
    }

    static void endOfAPlan() {
        Cases.sentence("2", "it ends as soon as all LINES and all FIGURES stand");
        NearFigures x = new NearFigures();
        x.layout(0, 16);
        Cases.heights(x, 4);
        Cases.best(x, 0, 1);
        Cases.page(x, 0, 1, 16, 0, 4, 0, 0, 0);
        Cases.judged(x, 0, 0, 1);
        Cases.judged(x, 2, NONE, 1, 0);
        x.layout(0, 17);
        Cases.best(x, 0, 1, 0);
        Cases.page(x, 1, 0, 1, 16, 0, 19, 0, 0);
        Cases.sentence("2", "the longest PLAN: 20 PAGES of 6 LINES, 10 that a FIGURE fills");
        x = new NearFigures();
        Cases.bounds(x, 120, 6, 1, 6, 3, 0);
        Cases.heights(x, 6, 6, 6, 6, 6, 6, 6, 6, 6, 6);
        Cases.due("PAGES", x.told(9), 30);
        Cases.due("PAGES of GREEDY", x.told(11), 30);
        Cases.page(x, 29, 0, 6, 114, 0, 0, 0, 0);
        Cases.due("page(30, 0)", x.page(30, 0), UNKNOWN);
        Cases.due("from(0, 0, 1)", x.from(0, 0, 1), 30);
    }

    static void tenWait() {
        Cases.sentence("2", "COST of a FIGURE: its weight times the PAGES between, the greatest of all");
        NearFigures x = new NearFigures();
        Cases.bounds(x, 0, 10, 2, 6, 1, 0);
        for (int f = 0; f < 10; f++) {
            x.figure(f, 6, 1, 119, 9);
        }
        Cases.best(x, 405, 1, 1, 1, 1, 1, 1, 1, 1, 1, 1);
        Cases.due("COST of GREEDY", x.told(10), 405);
        Cases.due("PLACES", x.told(12), 11);
        Cases.due("HEAVY", x.told(13), 9);
        Cases.due("0 on the same one", x.figureOf(0, 6), 0);
        Cases.due("1 PAGE", x.figureOf(1, 6), 9);
        Cases.due("9 PAGES", x.figureOf(9, 6), 81);
        Cases.sentence("3", "WAITING, bit k for FIGURE k: the greatest SET, and none behind the last PAGE");
        Cases.due("page(0, 5)", x.page(0, 5), 1022);
        Cases.due("page(8, 5)", x.page(8, 5), 512);
        Cases.due("page(9, 5)", x.page(9, 5), 0);
        Cases.sentence("P16", "from there on alone");
        Cases.due("from(0, 0, 0)", x.from(0, 0, 0), 405);
        Cases.due("from(0, 1, 0)", x.from(0, 1, 0), 324);
        Cases.due("from(0, 5, 0)", x.from(0, 5, 0), 90);
        Cases.due("from(0, 5, 1)", x.from(0, 5, 1), 5);
        Cases.due("from(0, 9, 0)", x.from(0, 9, 0), 0);
        Cases.due("from(0, 10, 0)", x.from(0, 10, 0), 0);
        Cases.due("from(0, 10, 1)", x.from(0, 10, 1), 0);
    }

    static void tenEarly() {
        Cases.sentence("3", "EARLY ones: that stand and were not mentioned yet; WAITING of the last two of ten");
        NearFigures x = new NearFigures();
        Cases.bounds(x, 80, 10, 2, 6, 4, 1);
        for (int f = 0; f < 8; f++) {
            x.figure(f, 1, 0, 119, 1);
        }
        x.figure(8, 1, 0, 0, 1);
        x.figure(9, 2, 0, 0, 9);
        // The last two, of weight 10 together, come as soon as they can; the eight ahead of them are early for that.
        Cases.best(x, 44, 2, 4, 4, 0, 0);
        Cases.page(x, 0, 2, 18, 0, 2, 0, 768, 3);
        Cases.page(x, 1, 4, 16, 18, 4, 0, 768, 63);
        Cases.page(x, 2, 4, 15, 34, 5, 0, 0, 255);
        Cases.page(x, 3, 0, 20, 49, 0, 0, 0, 255);
        Cases.page(x, 4, 0, 11, 69, 0, 9, 0, 0);
        Cases.due("COST of an early one", x.figureOf(0, 6), 4);
    }

    static void mentionedAtAPagesEnd() {
        Cases.sentence("3", "WAITING: mentioned on the PAGE's last LINE, not on the next PAGE's first");
        NearFigures x = new NearFigures();
        x.figure(0, 4, 0, 19, 1);
        Cases.best(x, 1, 0, 1, 0);
        Cases.due("page(0, 5)", x.page(0, 5), 1);
        x.mention(0, 20);
        Cases.best(x, 0, 0, 1, 0);
        Cases.due("page(0, 5)", x.page(0, 5), 0);
        Cases.sentence("3", "EARLY ones: not mentioned on the PAGE's last LINE, but on the next PAGE's first");
        x = new NearFigures();
        x.layout(5, 1);
        x.figure(0, 4, 0, 12, 1);
        x.figure(1, 4, 0, 0, 9);
        Cases.best(x, 1, 2, 0, 0);
        Cases.due("page(0, 6)", x.page(0, 6), 1);
        x.mention(0, 11);
        Cases.best(x, 0, 2, 0, 0);
        Cases.due("page(0, 6)", x.page(0, 6), 0);
    }

    static void waysAskedFirst() {
        Cases.sentence("P13", "WAYS (0: no PLAN), asked first behind each change");
        NearFigures x = new NearFigures();
        Cases.due("a new object", x.ways(), 1);
        x.figure(0, 4, 0, 19, 1);
        Cases.due("late alone", x.ways(), 1);
        x.layout(5, 1);
        Cases.due("late or early", x.ways(), 2);
        x.layout(3, 3);
        Cases.due("no PLAN", x.ways(), 0);
        x.undo();
        Cases.due("undone", x.ways(), 2);
        x.mention(0, 0);
        Cases.due("on its PAGE", x.ways(), 1);
    }

    static void fewestPagesOfLikeOnes() {
        Cases.sentence("2", "of like ones of fewest PAGES, though another has fewer FIGURES on its first");
        NearFigures x = new NearFigures();
        Cases.bounds(x, 7, 6, 1, 5, 1, 1);
        x.figure(0, 1, 0, 6, 2);
        x.figure(1, 3, 0, 0, 2);
        // Both cost 4: 0, 1, 1 has 3 pages and 1, 1 has 2.
        Cases.best(x, 4, 1, 1);
        Cases.due("ways()", x.ways(), 1);
        Cases.due("from(0, 0, 1)", x.from(0, 0, 1), 2);
        Cases.judged(x, 0, 4, 0, 1, 1);
        Cases.judged(x, 0, 4, 1, 1);
        Cases.sentence("2", "of like ones the first (PAGE by PAGE the fewer FIGURES)");
        x = new NearFigures();
        x.layout(5, 1);
        x.figure(0, 4, 0, 19, 1);
        Cases.best(x, 1, 0, 1, 0);
        Cases.judged(x, 0, 1, 1, 0, 0);
        Cases.due("ways()", x.ways(), 2);
    }

    static void aFigureThatDoesNotFitAlone() {
        Cases.sentence("2", "CLASH: the first FIGURE that does not FIT alone; BEST NONE, GREEDY NONE, PLACES 0, WAYS 0");
        NearFigures x = new NearFigures();
        Cases.heights(x, 6, 7, -7, 6);
        Cases.told(x, 40, 10, 2, 6, 3, 0, 4, 1, NONE, NONE, NONE, NONE, 0, NONE);
        Cases.due("ways()", x.ways(), 0);
        Cases.due("pageOf(0)", x.pageOf(0), NOT);
        Cases.due("page(0, 0)", x.page(0, 0), UNKNOWN);
        Cases.figureOf(x, 0, 6, 0, 0, 1, NONE, NONE, NONE, NONE);
        Cases.sentence("P14", "NONE: no PLAN, while another CLASH is there");
        for (int f = 0; f < 4; f++) {
            Cases.due("without(" + f + ")", x.without(f), NONE);
            Cases.due("moved(" + f + ", 0)", x.moved(f, 0), NONE);
        }
        Cases.sentence("2", "the next CLASH, the last as the first, NONE");
        x.drop(1);
        Cases.due("CLASH", x.told(7), 1);
        Cases.due("without(1)", x.without(1), 0);
        Cases.due("without(0)", x.without(0), NONE);
        x.layout(3, 7);
        Cases.due("CLASH", x.told(7), NONE);
        Cases.due("PAGES", x.told(9), 4);
        x.layout(3, 5);
        Cases.due("CLASH", x.told(7), 0);
        Cases.sentence("2", "CLASH without LINES, and of the last of ten");
        Cases.bounds(x, 0, 10, 2, 6, 1, 1);
        Cases.heights(x, 1, 1, 1, 1, 1, 1, 1, 1, 1, 7);
        Cases.due("CLASH", x.told(7), 9);
        Cases.due("COST", x.told(8), NONE);
        Cases.due("without(9)", x.without(9), 36);
    }

    static void greedy() {
        Cases.sentence("2", "GREEDY: when no LINE is left the most that FIT");
        NearFigures x = new NearFigures();
        x.layout(0, 0);
        Cases.heights(x, 1, 1, 1, 1, 1, 1, 1);
        x.mention(6, 119);
        int[] pages = {0, 0, 0, 1, 1, 1, 2};
        for (int f = 0; f < 7; f++) {
            Cases.due("figureOf(" + f + ", 7)", x.figureOf(f, 7), pages[f]);
        }
        Cases.due("PAGES of GREEDY", x.told(11), 3);
        Cases.due("COST of GREEDY", x.told(10), 5);
        Cases.sentence("2", "GREEDY: none of which stands ahead of the PAGE of its MENTION, whatever EARLY is");
        for (int early : new int[] {0, 1}) {
            NearFigures y = new NearFigures();
            y.layout(5, early);
            y.figure(0, 6, 0, 39, 1);
            y.figure(1, 6, 0, 0, 9);
            Cases.due("COST of GREEDY", y.told(10), 19);
            Cases.due("PAGES of GREEDY", y.told(11), 3);
            Cases.due("its PAGE in GREEDY", y.figureOf(0, 7), 2);
            Cases.due("its PAGE in GREEDY", y.figureOf(1, 7), 2);
            Cases.due("COST of BEST", y.told(8), early == 1 ? 2 : 19);
            Cases.due("its PAGE in BEST", y.figureOf(0, 4), early == 1 ? 0 : 2);
            Cases.due("its PAGE in BEST", y.figureOf(1, 4), early == 1 ? 0 : 2);
        }
        Cases.sentence("2", "GREEDY: the most, so that a mention on the last LINE that has room is taken, the next is not");
        x = new NearFigures();
        x.figure(0, 2, 0, 0, 1);
        x.figure(1, 2, 0, 15, 1);
        Cases.due("both on PAGE 0", x.figureOf(1, 7), 0);
        x.mention(1, 16);
        Cases.due("one on PAGE 0", x.figureOf(1, 7), 1);
        Cases.due("its MENTION is there", x.figureOf(1, 5), 0);
    }

    static void heavy() {
        Cases.sentence("3", "HEAVY: NONE: none costs, there are none, there is no PLAN");
        NearFigures x = new NearFigures();
        Cases.due("no FIGURES", x.told(13), NONE);
        Cases.heights(x, 3, 3);
        Cases.due("COST", x.told(8), 0);
        Cases.due("none costs", x.told(13), NONE);
        x.layout(3, 2);
        Cases.due("no PLAN", x.told(13), NONE);
        Cases.sentence("3", "HEAVY: of like ones the least");
        x = new NearFigures();
        Cases.bounds(x, 0, 10, 2, 6, 1, 0);
        x.figure(0, 1, 0, 0, 9);
        x.figure(1, 1, 0, 0, 6);
        x.figure(2, 1, 0, 0, 3);
        Cases.due("6 on PAGE 1, 3 on PAGE 2", x.told(13), 1);
        x.figure(3, 1, 0, 0, 3);
        Cases.due("3 on PAGE 3", x.told(13), 3);
        Cases.sentence("3", "HEAVY: the first FIGURE, by the least that one can cost");
        x = new NearFigures();
        x.figure(0, 4, 0, 19, 1);
        Cases.due("COST", x.told(8), 1);
        Cases.due("HEAVY", x.told(13), 0);
    }

    static void withoutAndMoved() {
        Cases.sentence("P14", "WITHOUT the only FIGURE, and of two that wait for one another");
        NearFigures x = new NearFigures();
        x.figure(0, 6, 0, 39, 1);
        Cases.due("COST", x.told(8), 1);
        Cases.due("without(0)", x.without(0), 0);
        x.figure(1, 6, 0, 0, 9);
        Cases.due("COST", x.told(8), 19);
        Cases.due("without(0)", x.without(0), 0);
        Cases.due("without(1)", x.without(1), 1);
        Cases.sentence("P15", "MOVED to where it is; to the last LINE, to one behind it; to the first");
        Cases.due("moved(0, 39)", x.moved(0, 39), 19);
        Cases.due("moved(0, 119)", x.moved(0, 119), 19);
        Cases.due("moved(0, 0)", x.moved(0, 0), 0);
        Cases.due("its MENTION stays", x.figureOf(0, 2), 39);
        Cases.sentence("P15", "MOVED without LINES: all are on PAGE 0");
        x.layout(0, 0);
        Cases.due("moved(1, 0)", x.moved(1, 0), 0);
        Cases.due("moved(1, 119)", x.moved(1, 119), 0);
    }

    // ---- 3 by hand

    static void judgedReasons() {
        NearFigures x = new NearFigures();
        x.layout(4, 4);
        Cases.heights(x, 4, 4, 4);
        x.mention(2, 30);
        Cases.sentence("3", "JUDGED: 0 it is a PLAN; its COST, if it is one");
        Cases.judged(x, 0, 1, 2, 0, 1);
        Cases.sentence("3", "JUDGED: FIGURES that do not FIT");
        Cases.judged(x, 1, NONE, 3);
        Cases.judged(x, 1, NONE, 3, 0, 0);
        Cases.sentence("3", "JUDGED: more than there are");
        Cases.judged(x, 1, NONE, 4);
        Cases.judged(x, 2, NONE, 2, 2);
        Cases.judged(new NearFigures(), 1, NONE, 1);
        Cases.sentence("3", "JUDGED: one that stands too early");
        Cases.judged(x, 2, NONE, 2, 1, 0);
        Cases.sentence("3", "JUDGED: neither a LINE nor a FIGURE");
        Cases.judged(x, 4, NONE, 2, 0, 0, 0);
        Cases.judged(x, 4, NONE, 2, 0, 0, 0, 1);
        Cases.sentence("3", "JUDGED: a PAGE behind the end");
        Cases.judged(x, 4, NONE, 2, 0, 1, 0);
        Cases.judged(x, 4, NONE, 2, 0, 1, 1);
        Cases.sentence("3", "JUDGED: if it ends too soon, how many PAGES it has, and 1");
        Cases.judged(x, 1, NONE);
        Cases.judged(x, 2, NONE, 2);
        Cases.judged(x, 3, NONE, 2, 0);
        Cases.judged(x, 4, NONE, 2, 0, 0);
        Cases.sentence("3", "JUDGED: the first PAGE that cannot be so, of several");
        Cases.judged(x, 2, NONE, 2, 4, 4, 0, 0);
    }

    static void judgedEdges() {
        Cases.sentence("3", "BY HAND as many PAGES as may be: a PLAN of 30, and what is too short");
        NearFigures x = new NearFigures();
        Cases.bounds(x, 120, 6, 1, 6, 3, 0);
        Cases.heights(x, 6, 6, 6, 6, 6, 6, 6, 6, 6, 6);
        Cases.judged(x, 0, 55, 0, 1, 1, 1, 1, 1, 1, 1, 1, 1, 1, 0, 0, 0, 0, 0, 0, 0, 0, 0, 0, 0, 0, 0, 0, 0, 0, 0, 0, 0);
        Cases.due("one more", x.hand(0), Cases.FULL);
        Cases.judged(x, 30, NONE, 0, 1, 1, 1, 1, 1, 1, 1, 1, 1, 1, 0, 0, 0, 0, 0, 0, 0, 0, 0, 0, 0, 0, 0, 0, 0, 0, 0, 0);
        Cases.sentence("3", "BY HAND 30 PAGES of which the last is the first behind the end");
        x.drop(9);
        Cases.judged(x, 30, NONE, 0, 1, 1, 1, 1, 1, 1, 1, 1, 1, 0, 0, 0, 0, 0, 0, 0, 0, 0, 0, 0, 0, 0, 0, 0, 0, 0, 0, 0, 0);
        Cases.sentence("3", "JUDGED where there is a CLASH: up to the PAGE on which it would stand");
        NearFigures y = new NearFigures();
        Cases.heights(y, 4, 7);
        Cases.judged(y, 4, NONE, 1, 0, 0);
        Cases.judged(y, 4, NONE, 1, 0, 0, 1);
        Cases.judged(y, 2, NONE, 1, 1);
        Cases.judged(y, 1, NONE, 2);
        Cases.sentence("3", "PAGES by hand are judged by what is there when they are judged");
        Cases.judged(y, 4, NONE, 1, 0, 0);
        y.drop(1);
        Cases.due("judge(0)", y.judge(0), 0);
        y.layout(0, 36);
        Cases.due("judge(0)", y.judge(0), 3);
        y.layout(0, 37);
        Cases.due("judge(0)", y.judge(0), 0);
        y.drop(0);
        Cases.due("judge(0)", y.judge(0), 1);
        Cases.due("judge(1)", y.judge(1), NONE);
    }

    // ---- 3 by lots

    static void lots(int n, int seed, int lines, int top) {
        NearFigures x = new NearFigures();
        Cases.bounds(x, lines, Math.max(6, top), 2, 6, 3, 0);
        x.layout(3, top);
        int cost = x.drift(n, seed);
        Cases.due("drift(), COST of BEST", cost, x.told(8));
        Cases.due("FIGURES", x.told(6), n);
        BigInteger lot = BigInteger.valueOf(seed);
        for (int f = 0; f < n; f++) {
            int[] by = {Math.max(1, top), 2, Math.max(1, lines), 9};
            int[] more = {1, 0, 0, 1};
            for (int part = 0; part < 4; part++) {
                lot = lot.multiply(BigInteger.valueOf(16807)).mod(BigInteger.valueOf(2147483647));
                int want = lot.mod(BigInteger.valueOf(by[part])).intValue() + more[part];
                Cases.due("figureOf(" + f + ", " + part + ") of " + seed, x.figureOf(f, part), want);
            }
        }
    }

    static void lots() {
        Cases.sentence("3", "BY LOTS: what is left of (X times 16807) by 2147483647, of the least and the greatest SEED");
        for (int seed : new int[] {1, 2, 127773, 127774, 127775, 999998, 999999}) {
            lots(10, seed, 40, 6);
            lots(10, seed, 119, 7);
        }
        Cases.sentence("3", "BY LOTS: T is 0, L is 0, both; 1; the greatest");
        for (int seed : new int[] {1, 7, 999999}) {
            lots(10, seed, 40, 0);
            lots(10, seed, 0, 6);
            lots(10, seed, 0, 0);
            lots(10, seed, 1, 1);
            lots(10, seed, 2, 1);
            lots(10, seed, 120, 40);
        }
        Cases.sentence("3", "BY LOTS: no FIGURES; then n of them");
        NearFigures x = new NearFigures();
        Cases.heights(x, 1, 1, 1);
        Cases.due("drift(1, 1)", x.drift(1, 1), 0);
        Cases.figureOf(x, 0, 2, 1, 33, 3, 1, 1, 0, 1);
        Cases.due("the second", x.figureOf(1, 0), UNKNOWN);
        Cases.due("drift(0, 1)", x.drift(0, 1), 0);
        Cases.due("FIGURES", x.told(6), 0);
        Cases.sentence("P6", "COST of BEST: NONE, where there is none");
        x.layout(3, 0);
        Cases.due("drift(1, 1)", x.drift(1, 1), NONE);
        Cases.due("drift(0, 1)", x.drift(0, 1), 0);
        Cases.due("drift(10, 1)", x.drift(10, 1), NONE);
    }

    // ---- 3 undone

    static void oldestIsLost() {
        Cases.sentence("3", "UNDONE: 6 at most are kept, the oldest are lost");
        for (int changes = 1; changes <= 20; changes++) {
            NearFigures x = new NearFigures();
            for (int k = 1; k <= changes; k++) {
                x.layout(0, k);
            }
            int kept = Math.min(6, changes);
            Cases.due("told(15)", x.told(15), kept);
            for (int k = 1; k <= kept; k++) {
                Cases.due("undo()", x.undo(), kept - k);
                Cases.due("L", x.told(0), changes - k == 0 ? 40 : changes - k);
            }
            Cases.due("undo()", x.undo(), NOT);
        }
        Cases.sentence("3", "UNDONE: changes behind an undo() come in the place of what it brought back");
        NearFigures x = new NearFigures();
        for (int k = 1; k <= 7; k++) {
            x.layout(0, k);
        }
        x.undo();
        x.undo();
        x.layout(0, 100);
        Cases.due("told(15)", x.told(15), 5);
        int[] lines = {5, 4, 3, 2, 1};
        for (int k = 0; k < 5; k++) {
            Cases.due("undo()", x.undo(), 4 - k);
            Cases.due("L", x.told(0), lines[k]);
        }
        Cases.due("undo()", x.undo(), NOT);
    }

    static void eachIsUndone() {
        Cases.sentence("3", "UNDONE: the latest of layout(), figure(), drop(), mention(), drift(), each whole");
        NearFigures x = new NearFigures();
        x.figure(0, 4, 0, 5, 2);
        x.figure(0, 5, 1, 6, 1);
        x.mention(1, 30);
        x.drop(0);
        x.drift(10, 99);
        x.layout(1, 6);
        Cases.due("layout()", x.undo(), 5);
        Cases.told(x, 40, 10, 2, 6, 3, 0, 10);
        Cases.due("drift()", x.undo(), 4);
        Cases.due("FIGURES", x.told(6), 1);
        Cases.figureOf(x, 0, 4, 0, 30, 2);
        Cases.due("drop()", x.undo(), 3);
        Cases.figureOf(x, 0, 5, 1, 6, 1);
        Cases.figureOf(x, 1, 4, 0, 30, 2);
        Cases.due("mention()", x.undo(), 2);
        Cases.figureOf(x, 1, 4, 0, 5, 2);
        Cases.due("figure()", x.undo(), 1);
        Cases.figureOf(x, 0, 4, 0, 5, 2);
        Cases.due("figure()", x.undo(), 0);
        Cases.told(x, 40, 10, 2, 6, 3, 0, 0, NONE, 0, 2, 0, 2, 3, NONE, 0, 0);
        Cases.sentence("3", "UNDONE: hand() and clear() are no such change, and are not undone");
        x.layout(0, 20);
        x.hand(0);
        x.hand(0);
        Cases.due("undo()", x.undo(), 0);
        Cases.due("PAGES told BY HAND", x.told(14), 2);
        x.layout(0, 20);
        x.clear();
        x.undo();
        Cases.due("PAGES told BY HAND", x.told(14), 0);
        Cases.sentence("3", "UNDONE: drift() of no FIGURES, where there were none, is one change");
        Cases.due("told(15)", x.told(15), 0);
        x.drift(0, 1);
        Cases.due("told(15)", x.told(15), 1);
    }

    // ---- 3 images

    static void images() {
        Cases.sentence("P20", "IMAGES keep THE TEXT, all bounds, FIGURES");
        NearFigures x = new NearFigures();
        int[] bounds = {77, 13, 1, 11, 2, 1};
        Cases.bounds(x, bounds);
        x.figure(0, 11, 1, 76, 9);
        Cases.due("keep(1)", x.keep(1), 1);
        Cases.bounds(x, 0, 6, 2, 0, 4, 0);
        x.drift(10, 4);
        Cases.due("goBack(1)", x.goBack(1), 1);
        Cases.told(x, 77, 13, 1, 11, 2, 1, 1, NONE, 9);
        Cases.figureOf(x, 0, 11, 1, 76, 9);
        Cases.sentence("P20", "nothing can be undone then");
        Cases.due("undo()", x.undo(), NOT);
        x.drop(0);
        Cases.due("told(15)", x.told(15), 1);
        Cases.due("keep(0)", x.keep(0), 0);
        Cases.due("told(15)", x.told(15), 0);
        Cases.due("undo()", x.undo(), NOT);
        Cases.sentence("P21", "nothing can be undone then; what is done behind it can be, down to the IMAGE");
        x.layout(0, 5);
        Cases.due("goBack(1)", x.goBack(1), 1);
        Cases.due("told(15)", x.told(15), 0);
        x.mention(0, 3);
        x.layout(0, 6);
        Cases.due("undo()", x.undo(), 1);
        Cases.due("undo()", x.undo(), 0);
        Cases.figureOf(x, 0, 11, 1, 76, 9);
        Cases.due("L", x.told(0), 77);
        Cases.due("undo()", x.undo(), NOT);
    }

    static void imagesStay() {
        Cases.sentence("P21", "an IMAGE stays what was kept, how often it is gone back to, whatever is done behind it");
        NearFigures x = new NearFigures();
        Cases.heights(x, 1, 2);
        x.keep(0);
        x.drop(0);
        x.keep(1);
        for (int k = 0; k < 3; k++) {
            Cases.due("goBack(0)", x.goBack(0), 2);
            Cases.due("height 0", x.figureOf(0, 0), 1);
            x.mention(0, 50 + k);
            x.figure(0, 9, 1, 1, 1);
            x.layout(0, k);
            Cases.due("goBack(1)", x.goBack(1), 1);
            Cases.due("height 0", x.figureOf(0, 0), 2);
            Cases.due("MENTION 0", x.figureOf(0, 2), 0);
            Cases.due("L", x.told(0), 40);
            x.drift(10, 3);
        }
        Cases.sentence("P20", "kept anew it is the new one, the other stays");
        Cases.due("keep(0)", x.keep(0), 10);
        Cases.due("goBack(1)", x.goBack(1), 1);
        Cases.due("goBack(0)", x.goBack(0), 10);
        Cases.sentence("P20", "an IMAGE has no PAGES by hand, and does not touch them");
        x.hand(1);
        x.keep(0);
        x.hand(2);
        Cases.due("goBack(0)", x.goBack(0), 10);
        Cases.due("PAGES told BY HAND", x.told(14), 2);
    }

    static void lastOfManyCalls() {
        Cases.sentence("terms", "at most 512 calls: the last of them is answered like the first");
        NearFigures x = new NearFigures();
        for (int call = 1; call <= 509; call++) {
            x.drift(10, call);
        }
        Cases.due("call 510, layout(2, 1)", x.layout(2, 1), 2);
        Cases.due("call 511, undo()", x.undo(), 5);
        NearFigures y = new NearFigures();
        Cases.due("call 512, told(8)", x.told(8), y.drift(10, 509));
        NearFigures z = new NearFigures();
        for (int call = 1; call <= 512; call++) {
            Cases.due("clear()", z.clear(), 0);
        }
    }

    public static void main(String[] args) {
        nothingThere();
        linesAlone();
        mentionBehindTheLastLine();
        mentionWithoutLines();
        mostOnAPage();
        topOfAColumn();
        givenToColumns();
        roomTaken();
        notAheadOfItsMention();
        endOfAPlan();
        tenWait();
        tenEarly();
        mentionedAtAPagesEnd();
        waysAskedFirst();
        fewestPagesOfLikeOnes();
        aFigureThatDoesNotFitAlone();
        greedy();
        heavy();
        withoutAndMoved();
        judgedReasons();
        judgedEdges();
        lots();
        oldestIsLost();
        eachIsUndone();
        images();
        imagesStay();
        lastOfManyCalls();
        Cases.end();
    }
}
