import java.util.List;

/**
 * The bounds of every number of every call: the least and the greatest that may be, the first beyond each, and that a
 * refused call changes nothing. One sentence of the document, one test.
 */
public final class BoundsTest {
    static final List<Cases.Steps> STATES = List.of(BoundsTest::fresh, BoundsTest::some, BoundsTest::full,
        BoundsTest::clashed, BoundsTest::lineless);

    static void fresh(NearFigures x) {
    }

    /** An image, three figures, four changes that can be undone, two pages by hand. */
    static void some(NearFigures x) {
        x.layout(1, 12);
        x.figure(0, 2, 1, 7, 8);
        x.keep(0);
        x.layout(0, 50);
        x.figure(0, 4, 0, 5, 2);
        x.figure(1, 5, 1, 6, 1);
        x.mention(2, 33);
        x.hand(1);
        x.hand(2);
    }

    /** As many figures, changes, images and pages by hand as may be. */
    static void full(NearFigures x) {
        x.keep(0);
        x.figure(0, 3, 0, 119, 5);
        x.keep(1);
        for (int f = 1; f < 10; f++) {
            x.figure(f, 1 + f % 4, f % 2, 4 * f, f);
        }
        for (int p = 0; p < 30; p++) {
            x.hand(p % 5);
        }
    }

    static void clashed(NearFigures x) {
        x.figure(0, 4, 0, 5, 2);
        x.figure(1, 7, 0, 5, 2);
        x.figure(2, 7, 1, 5, 2);
        x.hand(1);
    }

    static void lineless(NearFigures x) {
        x.figure(0, 4, 0, 5, 2);
        x.figure(1, 5, 1, 6, 1);
        x.layout(0, 0);
    }

    static void refused(String name, Cases.Call call, long want) {
        for (Cases.Steps state : STATES) {
            Cases.stays(state, name, call, want);
        }
    }

    static void layoutRefused(int what, int... off) {
        for (int v : off) {
            refused("layout(" + what + ", " + v + ")", x -> x.layout(what, v), Cases.OUTSIDE);
        }
    }

    static void layoutTaken(NearFigures x, int what, int... values) {
        int was = x.told(what);
        for (int v : values) {
            Cases.due("layout(" + what + ", " + v + ")", x.layout(what, v), was);
            Cases.due("told(" + what + ")", x.told(what), v);
            was = v;
        }
    }

    static void layout() {
        int[][] ends = {{0, 120}, {6, 40}, {1, 2}, {0, 10}, {1, 4}, {0, 1}};
        String[] words = {"L LINES (0 .. 120)", "H lines (6 .. 40)", "C columns (1, 2)", "TOP T (0 .. H)", "MOST M (1 .. 4)",
            "EARLY (1 or 0)"};
        for (int what = 0; what < 6; what++) {
            Cases.sentence("P2", words[what]);
            layoutTaken(new NearFigures(), what, ends[what][0], ends[what][0] + 1, ends[what][1], ends[what][0]);
            int beyond = what == 3 ? 13 : ends[what][1] + 1;
            layoutRefused(what, ends[what][0] - 1, beyond, Cases.LOW, Cases.HIGH);
        }
        Cases.sentence("P2", "what = 0 .. 5");
        for (int what : new int[] {-1, 6, Cases.LOW, Cases.HIGH}) {
            layoutRefused(what, 0, 1, 6, -1);
        }
        Cases.sentence("P2", "the same value again is a change, that was not refused");
        NearFigures x = new NearFigures();
        Cases.due("layout(4, 3)", x.layout(4, 3), 3);
        Cases.due("told(15)", x.told(15), 1);
    }

    static void top() {
        Cases.sentence("P2", "T is H at most: for the least, the first and the greatest H");
        for (int high : new int[] {6, 10, 40}) {
            NearFigures x = new NearFigures();
            x.layout(1, high);
            Cases.due("layout(3, H + 1)", x.layout(3, high + 1), Cases.OUTSIDE);
            Cases.due("T stays", x.told(3), 6);
            Cases.due("layout(3, H)", x.layout(3, high), 6);
            Cases.due("T", x.told(3), high);
        }
        Cases.sentence("P2", "T is H at most then: it goes down with H, and does not come up again");
        NearFigures x = new NearFigures();
        layoutTaken(x, 3, 10);
        Cases.due("layout(1, 9)", x.layout(1, 9), 10);
        Cases.due("T is cut", x.told(3), 9);
        Cases.due("layout(1, 40)", x.layout(1, 40), 9);
        Cases.due("T stays", x.told(3), 9);
        Cases.due("layout(3, 8)", x.layout(3, 8), 9);
        Cases.due("layout(1, 8)", x.layout(1, 8), 40);
        Cases.due("T as H is not cut", x.told(3), 8);
        Cases.sentence("P2", "a change that cuts T is one change: undone, both are as they were");
        x.layout(1, 6);
        Cases.due("undo()", x.undo(), 5);
        Cases.told(x, 40, 8, 2, 8);
    }

    static void figureParts() {
        int[][] ends = {{1, 40}, {0, 1}, {0, 119}, {1, 9}};
        String[] words = {"height (1 .. 40)", "wide (1) or narrow (0)", "MENTION: a LINE (0 .. 119)", "weight (1 .. 9)"};
        for (int part = 0; part < 4; part++) {
            Cases.sentence("P3", words[part]);
            for (int v : ends[part]) {
                NearFigures x = new NearFigures();
                int[] a = {3, 0, 3, 3};
                a[part] = v;
                Cases.due(words[part] + " " + v, x.figure(0, a[0], a[1], a[2], a[3]), 1);
                Cases.figureOf(x, 0, a);
            }
            for (int v : new int[] {ends[part][0] - 1, ends[part][1] + 1, Cases.LOW, Cases.HIGH}) {
                int[] a = {3, 0, 3, 3};
                a[part] = v;
                refused("figure with " + v, x -> x.figure(0, a[0], a[1], a[2], a[3]), Cases.OUTSIDE);
            }
        }
    }

    static void figurePlace() {
        Cases.sentence("P3", "at place i (0: ahead of all, to how many there are)");
        for (int many = 0; many < 10; many++) {
            for (int i : new int[] {0, many / 2, many}) {
                NearFigures x = new NearFigures();
                for (int f = 0; f < many; f++) {
                    x.figure(f, f + 1, 0, f, 1);
                }
                Cases.due("figure(" + i + ", ..)", x.figure(i, 40, 1, 119, 9), many + 1);
                for (int f = 0; f <= many; f++) {
                    int old = f < i ? f : f - 1;
                    Cases.figureOf(x, f, f == i ? new int[] {40, 1, 119, 9} : new int[] {old + 1, 0, old, 1});
                }
            }
        }
        Cases.sentence("P3", "a place behind how many there are, or ahead of 0");
        Cases.stays(BoundsTest::fresh, "figure(1, ..)", x -> x.figure(1, 1, 0, 0, 1), Cases.OUTSIDE);
        Cases.stays(BoundsTest::some, "figure(4, ..)", x -> x.figure(4, 1, 0, 0, 1), Cases.OUTSIDE);
        for (int i : new int[] {-1, 11, Cases.LOW, Cases.HIGH}) {
            refused("figure(" + i + ", ..)", x -> x.figure(i, 1, 0, 0, 1), Cases.OUTSIDE);
        }
    }

    static void figureFull() {
        Cases.sentence("P3", "FULL (10)");
        NearFigures x = new NearFigures();
        for (int f = 0; f < 10; f++) {
            Cases.due("figure " + f, x.figure(f, 1, 0, 0, 1), f + 1);
        }
        for (int i : new int[] {0, 5, 9, 10}) {
            Cases.stays(BoundsTest::full, "an eleventh at " + i, y -> y.figure(i, 1, 0, 0, 1), Cases.FULL);
        }
        Cases.sentence("P3", "OUTSIDE is told ahead of FULL");
        int[][] off = {{11, 1, 0, 0, 1}, {-1, 1, 0, 0, 1}, {0, 0, 0, 0, 1}, {0, 1, 2, 0, 1}, {0, 1, 0, 120, 1}, {0, 1, 0, 0, 0}};
        for (int[] a : off) {
            Cases.stays(BoundsTest::full, "figure", y -> y.figure(a[0], a[1], a[2], a[3], a[4]), Cases.OUTSIDE);
        }
        Cases.sentence("P3", "when one of ten is there no more, one more can be");
        x.drop(4);
        Cases.due("figure(9, ..)", x.figure(9, 1, 0, 0, 1), 10);
        Cases.due("figure(9, ..)", x.figure(9, 1, 0, 0, 1), Cases.FULL);
    }

    /** No FIGURE has such a number, whatever there is. */
    static void unknownFigure(String name, Cases.CallOf call) {
        for (int f : new int[] {-1, 10, Cases.LOW, Cases.HIGH}) {
            refused(name + " of " + f, x -> call.on(x, f), Cases.UNKNOWN);
        }
        Cases.stays(BoundsTest::fresh, name + " where there is none", x -> call.on(x, 0), Cases.UNKNOWN);
        Cases.stays(BoundsTest::some, name + " of the first there is not", x -> call.on(x, 3), Cases.UNKNOWN);
        Cases.stays(BoundsTest::clashed, name + " of the first there is not", x -> call.on(x, 3), Cases.UNKNOWN);
        Cases.stays(BoundsTest::lineless, name + " of the first there is not", x -> call.on(x, 2), Cases.UNKNOWN);
    }

    static void drop() {
        Cases.sentence("P4", "UNKNOWN: a FIGURE that there is not");
        unknownFigure("drop", NearFigures::drop);
        Cases.sentence("P4", "how many are left: the first, one between, the last of ten; 0 at last");
        for (int f : new int[] {0, 4, 9}) {
            NearFigures x = Cases.after(BoundsTest::full);
            int[] weights = new int[10];
            for (int k = 0; k < 10; k++) {
                weights[k] = x.figureOf(k, 3);
            }
            Cases.due("drop(" + f + ")", x.drop(f), 9);
            for (int k = 0; k < 9; k++) {
                Cases.due("weight " + k, x.figureOf(k, 3), weights[k < f ? k : k + 1]);
            }
            Cases.due("the tenth", x.figureOf(9, 3), Cases.UNKNOWN);
            for (int left = 8; left >= 0; left--) {
                Cases.due("drop(0)", x.drop(0), left);
            }
            Cases.due("drop(0)", x.drop(0), Cases.UNKNOWN);
        }
    }

    static void mention() {
        Cases.sentence("P5", "MENTION of a FIGURE (0 .. 119): what it was");
        NearFigures x = Cases.after(BoundsTest::full);
        for (int f : new int[] {0, 9}) {
            int was = x.figureOf(f, 2);
            Cases.due("mention(" + f + ", 0)", x.mention(f, 0), was);
            Cases.due("mention(" + f + ", 119)", x.mention(f, 119), 0);
            Cases.due("figureOf(" + f + ", 2)", x.figureOf(f, 2), 119);
        }
        Cases.sentence("P5", "UNKNOWN, also ahead of OUTSIDE");
        unknownFigure("mention", (y, f) -> y.mention(f, 0));
        unknownFigure("mention beyond", (y, f) -> y.mention(f, 120));
        Cases.sentence("P5", "OUTSIDE");
        for (int line : new int[] {-1, 120, Cases.LOW, Cases.HIGH}) {
            Cases.stays(BoundsTest::some, "mention(2, " + line + ")", y -> y.mention(2, line), Cases.OUTSIDE);
            Cases.stays(BoundsTest::full, "mention(9, " + line + ")", y -> y.mention(9, line), Cases.OUTSIDE);
            Cases.stays(BoundsTest::lineless, "mention(0, " + line + ")", y -> y.mention(0, line), Cases.OUTSIDE);
        }
    }

    static void drift() {
        Cases.sentence("P6", "n FIGURES (0 .. 10)");
        NearFigures x = Cases.after(BoundsTest::full);
        Cases.due("drift(0, 5)", x.drift(0, 5), 0);
        Cases.due("FIGURES", x.told(6), 0);
        x.drift(10, 5);
        Cases.due("FIGURES", x.told(6), 10);
        for (int n : new int[] {-1, 11, Cases.LOW, Cases.HIGH}) {
            refused("drift(" + n + ", 1)", y -> y.drift(n, 1), Cases.OUTSIDE);
        }
        Cases.sentence("P6", "a SEED (1 .. 999999)");
        Cases.due("drift(1, 1)", x.drift(1, 1), 0);
        Cases.due("drift(1, 999999)", x.drift(1, 999999), x.told(8));
        for (int seed : new int[] {0, 1000000, -1, Cases.LOW, Cases.HIGH}) {
            refused("drift(1, " + seed + ")", y -> y.drift(1, seed), Cases.OUTSIDE);
            refused("drift(0, " + seed + ")", y -> y.drift(0, seed), Cases.OUTSIDE);
        }
    }

    static void undo() {
        Cases.sentence("P7", "NOT: none, as in a new object, behind keep(), behind goBack(), behind the last undone");
        Cases.stays(BoundsTest::fresh, "undo()", NearFigures::undo, Cases.NOT);
        Cases.stays(x -> {
            some(x);
            x.keep(1);
        }, "undo() behind keep()", NearFigures::undo, Cases.NOT);
        Cases.stays(x -> {
            some(x);
            x.goBack(0);
        }, "undo() behind goBack()", NearFigures::undo, Cases.NOT);
        Cases.stays(x -> {
            some(x);
            for (int k = 0; k < 4; k++) {
                x.undo();
            }
        }, "undo() behind the last", NearFigures::undo, Cases.NOT);
    }

    static void told() {
        Cases.sentence("P8", "OUTSIDE: what beyond 0 .. 15");
        for (int what : new int[] {-1, 16, Cases.LOW, Cases.HIGH}) {
            refused("told(" + what + ")", x -> x.told(what), Cases.OUTSIDE);
        }
        Cases.sentence("P8", "asked, nothing changes: 0 L is the least, 15 how many can be undone the greatest");
        for (int what = 0; what <= 15; what++) {
            int asked = what;
            for (Cases.Steps state : STATES) {
                Cases.stays(state, "told(" + what + ")", x -> x.told(asked), Cases.after(state).told(what));
            }
        }
        Cases.due("told(0)", Cases.after(BoundsTest::some).told(0), 50);
        Cases.due("told(15)", Cases.after(BoundsTest::some).told(15), 4);
        Cases.due("told(15)", Cases.after(BoundsTest::full).told(15), 6);
    }

    static void figureOf() {
        Cases.sentence("P9", "UNKNOWN, also ahead of OUTSIDE");
        for (int what : new int[] {-1, 0, 7, 8}) {
            unknownFigure("figureOf what " + what, (x, f) -> x.figureOf(f, what));
        }
        Cases.sentence("P9", "OUTSIDE: what beyond 0 .. 7, also where there is no PLAN");
        for (int what : new int[] {-1, 8, Cases.LOW, Cases.HIGH}) {
            Cases.stays(BoundsTest::some, "figureOf(0, " + what + ")", x -> x.figureOf(0, what), Cases.OUTSIDE);
            Cases.stays(BoundsTest::full, "figureOf(9, " + what + ")", x -> x.figureOf(9, what), Cases.OUTSIDE);
            Cases.stays(BoundsTest::clashed, "figureOf(2, " + what + ")", x -> x.figureOf(2, what), Cases.OUTSIDE);
        }
        Cases.sentence("P9", "4 to 6 NONE: no PLAN; 7 (NONE); 0 to 3 are told all the same");
        NearFigures x = Cases.after(BoundsTest::clashed);
        Cases.figureOf(x, 0, 4, 0, 5, 2, Cases.NONE, Cases.NONE, Cases.NONE, Cases.NONE);
        Cases.figureOf(x, 2, 7, 1, 5, 2, Cases.NONE, Cases.NONE, Cases.NONE, Cases.NONE);
    }

    static void page() {
        Cases.sentence("P10", "UNKNOWN, also ahead of OUTSIDE: a PAGE that there is not");
        for (int what : new int[] {-1, 0, 6, 7}) {
            for (int p : new int[] {-1, 30, 31, Cases.LOW, Cases.HIGH}) {
                refused("page(" + p + ", " + what + ")", x -> x.page(p, what), Cases.UNKNOWN);
            }
            Cases.stays(BoundsTest::fresh, "the first behind the last", x -> x.page(2, what), Cases.UNKNOWN);
        }
        Cases.sentence("P10", "UNKNOWN (no PLAN, too)");
        Cases.stays(BoundsTest::clashed, "page(0, 0)", x -> x.page(0, 0), Cases.UNKNOWN);
        Cases.stays(BoundsTest::clashed, "page(0, 7)", x -> x.page(0, 7), Cases.UNKNOWN);
        Cases.sentence("P10", "OUTSIDE: what beyond 0 .. 6");
        for (int what : new int[] {-1, 7, Cases.LOW, Cases.HIGH}) {
            Cases.stays(BoundsTest::fresh, "page(1, " + what + ")", x -> x.page(1, what), Cases.OUTSIDE);
            Cases.stays(BoundsTest::some, "page(0, " + what + ")", x -> x.page(0, what), Cases.OUTSIDE);
            Cases.stays(BoundsTest::lineless, "page(0, " + what + ")", x -> x.page(0, what), Cases.OUTSIDE);
        }
    }

    static void pageOf() {
        Cases.sentence("P11", "the first and the last LINE, of the fewest and the most LINES");
        NearFigures x = new NearFigures();
        for (int lines : new int[] {1, 20, 21, 40, 120}) {
            x.layout(0, lines);
            Cases.due("pageOf(0)", x.pageOf(0), 0);
            Cases.due("pageOf(L - 1)", x.pageOf(lines - 1), (lines - 1) / 20);
            Cases.due("pageOf(L)", x.pageOf(lines), Cases.UNKNOWN);
        }
        Cases.sentence("P11", "UNKNOWN: a LINE that there is not");
        for (int line : new int[] {-1, 50, 119, 120, Cases.LOW, Cases.HIGH}) {
            refused("pageOf(" + line + ")", y -> y.pageOf(line), Cases.UNKNOWN);
        }
        Cases.stays(BoundsTest::lineless, "no LINES", y -> y.pageOf(0), Cases.UNKNOWN);
        Cases.sentence("P11", "NOT: no PLAN, behind UNKNOWN");
        Cases.stays(BoundsTest::clashed, "the first LINE", y -> y.pageOf(0), Cases.NOT);
        Cases.stays(BoundsTest::clashed, "the last LINE", y -> y.pageOf(39), Cases.NOT);
        Cases.stays(BoundsTest::clashed, "the first that there is not", y -> y.pageOf(40), Cases.UNKNOWN);
    }

    static void fits() {
        Cases.sentence("P12", "n 0: 1, of whatever f");
        for (int f : new int[] {0, 3, 9, 10, -1, Cases.LOW, Cases.HIGH}) {
            refused("fits(" + f + ", 0)", x -> x.fits(f, 0), 1);
        }
        Cases.sentence("P12", "UNKNOWN (f, if n is above 0), also where there are not so many behind");
        for (int n : new int[] {1, 4, 5, 11, Cases.HIGH}) {
            unknownFigure("fits of " + n, (x, f) -> x.fits(f, n));
        }
        Cases.sentence("P12", "OUTSIDE: n below 0, of whatever f");
        for (int n : new int[] {-1, Cases.LOW}) {
            for (int f : new int[] {0, 9, 10, -1, Cases.LOW, Cases.HIGH}) {
                refused("fits(" + f + ", " + n + ")", x -> x.fits(f, n), Cases.OUTSIDE);
            }
        }
        Cases.sentence("P12", "OUTSIDE: more than there are behind");
        int[][] more = {{0, 4}, {1, 3}, {2, 2}, {0, Cases.HIGH}, {2, Cases.HIGH}};
        for (int[] a : more) {
            Cases.stays(BoundsTest::some, "fits(" + a[0] + ", " + a[1] + ")", x -> x.fits(a[0], a[1]), Cases.OUTSIDE);
        }
        Cases.stays(BoundsTest::full, "fits(0, 11)", x -> x.fits(0, 11), Cases.OUTSIDE);
        Cases.stays(BoundsTest::full, "fits(9, 2)", x -> x.fits(9, 2), Cases.OUTSIDE);
        Cases.sentence("P12", "as many as there are behind are asked rightly");
        Cases.stays(BoundsTest::full, "fits(0, 10)", x -> x.fits(0, 10), 0);
        Cases.stays(BoundsTest::full, "fits(9, 1)", x -> x.fits(9, 1), 1);
        Cases.stays(BoundsTest::some, "fits(2, 1)", x -> x.fits(2, 1), 1);
    }

    static void withoutAndMoved() {
        Cases.sentence("P14", "UNKNOWN");
        unknownFigure("without", NearFigures::without);
        Cases.sentence("P15", "UNKNOWN, also ahead of OUTSIDE");
        unknownFigure("moved", (x, f) -> x.moved(f, 0));
        unknownFigure("moved beyond", (x, f) -> x.moved(f, 120));
        Cases.sentence("P15", "MOVED (0 .. 119): OUTSIDE, also where there is no PLAN");
        for (int line : new int[] {-1, 120, Cases.LOW, Cases.HIGH}) {
            Cases.stays(BoundsTest::some, "moved(2, " + line + ")", x -> x.moved(2, line), Cases.OUTSIDE);
            Cases.stays(BoundsTest::full, "moved(9, " + line + ")", x -> x.moved(9, line), Cases.OUTSIDE);
            Cases.stays(BoundsTest::clashed, "moved(0, " + line + ")", x -> x.moved(0, line), Cases.OUTSIDE);
        }
        Cases.sentence("P15", "the least and the greatest LINE are no refusal");
        for (int line : new int[] {0, 119}) {
            Cases.stays(BoundsTest::clashed, "no PLAN", x -> x.moved(0, line), Cases.NONE);
            Cases.stays(BoundsTest::lineless, "no LINES", x -> x.moved(1, line), 1);
        }
    }

    static void from() {
        Cases.sentence("P16", "OUTSIDE (what), also where it is no PLACE or there is no PLAN");
        for (int what : new int[] {-1, 2, Cases.LOW, Cases.HIGH}) {
            refused("from(0, 0, " + what + ")", x -> x.from(0, 0, what), Cases.OUTSIDE);
            refused("from(-1, 11, " + what + ")", x -> x.from(-1, 11, what), Cases.OUTSIDE);
        }
        Cases.sentence("P16", "NONE: it is no PLACE, with any numbers");
        int[][] none = {{-1, 0}, {0, -1}, {121, 0}, {0, 11}, {120, 10}, {1, 0}, {0, 10}, {-1, -1}, {-1, 10}, {-1, 11}, {-11, 121},
            {Cases.LOW, Cases.LOW}, {Cases.HIGH, Cases.HIGH}, {Cases.LOW, 0}, {0, Cases.LOW}, {Cases.HIGH, 0}, {0, Cases.HIGH}};
        for (int what : new int[] {0, 1}) {
            for (int[] a : none) {
                refused("from(" + a[0] + ", " + a[1] + ", " + what + ")", x -> x.from(a[0], a[1], what), Cases.NONE);
            }
        }
        Cases.sentence("P16", "NONE: there is no PLAN");
        Cases.stays(BoundsTest::clashed, "from(0, 0, 0)", x -> x.from(0, 0, 0), Cases.NONE);
        Cases.stays(BoundsTest::clashed, "from(0, 0, 1)", x -> x.from(0, 0, 1), Cases.NONE);
    }

    static void hand() {
        Cases.sentence("P17", "n FIGURES (0 .. 4)");
        NearFigures x = new NearFigures();
        Cases.due("hand(0)", x.hand(0), 1);
        Cases.due("hand(4)", x.hand(4), 2);
        for (int n : new int[] {-1, 5, Cases.LOW, Cases.HIGH}) {
            refused("hand(" + n + ")", y -> y.hand(n), Cases.OUTSIDE);
        }
        Cases.sentence("P17", "FULL (30), behind OUTSIDE");
        for (int k = 3; k <= 30; k++) {
            Cases.due("hand(1)", x.hand(1), k);
        }
        for (int n : new int[] {0, 4}) {
            Cases.stays(BoundsTest::full, "a page more with " + n, y -> y.hand(n), Cases.FULL);
        }
        Cases.sentence("P18", "how many there were: 30, then none, then there is room again");
        Cases.due("clear()", x.clear(), 30);
        Cases.due("clear()", x.clear(), 0);
        Cases.due("hand(4)", x.hand(4), 1);
        Cases.due("clear()", new NearFigures().clear(), 0);
    }

    static void judge() {
        Cases.sentence("P19", "OUTSIDE: what beyond 0 and 1");
        for (int what : new int[] {-1, 2, Cases.LOW, Cases.HIGH}) {
            refused("judge(" + what + ")", x -> x.judge(what), Cases.OUTSIDE);
        }
        Cases.sentence("P19", "asked, nothing changes");
        Cases.stays(BoundsTest::fresh, "judge(0)", x -> x.judge(0), 1);
        Cases.stays(BoundsTest::fresh, "judge(1)", x -> x.judge(1), Cases.NONE);
        Cases.stays(BoundsTest::clashed, "judge(0)", x -> x.judge(0), 2);
        Cases.stays(BoundsTest::clashed, "judge(1)", x -> x.judge(1), Cases.NONE);
    }

    static void images() {
        Cases.sentence("P20", "UNKNOWN: an IMAGE that there is not");
        for (int i : new int[] {-1, 2, Cases.LOW, Cases.HIGH}) {
            refused("keep(" + i + ")", x -> x.keep(i), Cases.UNKNOWN);
        }
        Cases.sentence("P21", "UNKNOWN: an IMAGE that there is not");
        for (int i : new int[] {-1, 2, Cases.LOW, Cases.HIGH}) {
            refused("goBack(" + i + ")", x -> x.goBack(i), Cases.UNKNOWN);
        }
        Cases.sentence("P21", "NOT: it was not kept");
        Cases.stays(BoundsTest::fresh, "goBack(0)", x -> x.goBack(0), Cases.NOT);
        Cases.stays(BoundsTest::fresh, "goBack(1)", x -> x.goBack(1), Cases.NOT);
        Cases.stays(BoundsTest::some, "goBack(1), where 0 was kept", x -> x.goBack(1), Cases.NOT);
        Cases.stays(x -> {
            some(x);
            x.goBack(0);
            x.drop(0);
        }, "goBack(1) behind goBack(0)", x -> x.goBack(1), Cases.NOT);
        Cases.sentence("P20", "IMAGES 0, 1: of no FIGURES, of ten");
        NearFigures x = new NearFigures();
        Cases.due("keep(0)", x.keep(0), 0);
        x.drift(10, 3);
        Cases.due("keep(1)", x.keep(1), 10);
        Cases.due("goBack(0)", x.goBack(0), 0);
        Cases.due("goBack(1)", x.goBack(1), 10);
    }

    /** Every call that only asks, with arguments that are right where there are such figures, pages and lines. */
    static final List<Cases.Call> ASKED = List.of(x -> x.told(8), x -> x.told(10), x -> x.told(12), x -> x.told(13),
        x -> x.figureOf(0, 4), x -> x.figureOf(1, 5), x -> x.figureOf(1, 6), x -> x.figureOf(1, 7), x -> x.page(0, 1), x -> x.page(1, 5),
        x -> x.pageOf(0), x -> x.pageOf(39), x -> x.fits(0, 2), NearFigures::ways, x -> x.without(0), x -> x.moved(0, 39),
        x -> x.from(0, 0, 0), x -> x.from(20, 0, 1), x -> x.judge(0), x -> x.judge(1));

    static void askedChangesNothing() {
        Cases.sentence("3", "ASKED (nothing changes)");
        for (Cases.Steps state : STATES) {
            for (int k = 0; k < ASKED.size(); k++) {
                Cases.stays(state, "asked " + k, ASKED.get(k), ASKED.get(k).on(Cases.after(state)));
            }
        }
    }

    /** What was asked ahead of a change must not be answered again behind it. */
    static void askedBehindEachChange() {
        Cases.sentence("3", "what is asked first behind a change is of what is so then");
        List<Cases.Call> changes = List.of(x -> x.layout(0, 30), x -> x.layout(3, 3), x -> x.layout(5, 1), x -> x.figure(0, 6, 1, 9, 9),
            x -> x.drop(0), x -> x.mention(0, 19), x -> x.drift(4, 77), NearFigures::undo, x -> x.goBack(0), x -> x.keep(0));
        for (Cases.Steps state : STATES) {
            for (int c = 0; c < changes.size(); c++) {
                for (int k = 0; k < ASKED.size(); k++) {
                    NearFigures asked = Cases.after(state), fresh = Cases.after(state);
                    ASKED.get(k).on(asked);
                    Cases.due("change " + c, changes.get(c).on(asked), changes.get(c).on(fresh));
                    Cases.due("asked " + k + " behind change " + c, ASKED.get(k).on(asked), ASKED.get(k).on(fresh));
                }
            }
        }
    }

    static void constants() {
        Cases.sentence("terms", "NONE is -1; refusals are -1000000001 and on");
        Cases.due("NONE", NearFigures.NONE, -1);
        Cases.due("UNKNOWN", NearFigures.UNKNOWN, -1000000001);
        Cases.due("OUTSIDE", NearFigures.OUTSIDE, -1000000002);
        Cases.due("NOT", NearFigures.NOT, -1000000003);
        Cases.due("FULL", NearFigures.FULL, -1000000004);
        Cases.sentence("P1", "forty LINES, two columns of ten, no FIGURES; T 6, M 3, EARLY 0 at first");
        Cases.told(new NearFigures(), 40, 10, 2, 6, 3, 0, 0, Cases.NONE, 0, 2, 0, 2, 3, Cases.NONE, 0, 0);
    }

    public static void main(String[] args) {
        constants();
        layout();
        top();
        figureParts();
        figurePlace();
        figureFull();
        drop();
        mention();
        drift();
        undo();
        told();
        figureOf();
        page();
        pageOf();
        fits();
        withoutAndMoved();
        from();
        hand();
        judge();
        images();
        askedChangesNothing();
        askedBehindEachChange();
        Cases.end();
    }
}
