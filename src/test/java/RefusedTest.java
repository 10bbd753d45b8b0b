/**
 * Every refused call, each on a fresh object in which there is something of everything: the number that it answers,
 * the one REFUSAL that is counted, and that all else is as it was, THE TAPE and the image too. And every call that
 * only asks: that it changes nothing and refuses nothing.
 */
public final class RefusedTest {
    private static final int BAD = -2;
    private static final int OTHER = -3;
    private static final int NOTHING = -4;
    private static final int STUCK = -5;
    private static final int FULL = -6;
    private static final int LEAST = Integer.MIN_VALUE;
    private static final int MOST = Integer.MAX_VALUE;

    private static final int[] NO_SHELF = {-1, 8, LEAST, MOST};
    /** No CELLS of SIDE 6. */
    private static final int[] NO_CELL = {-1, -10, 6, 9, 16, 56, 60, 66, 70, 100, 1000, LEAST, MOST};
    private static final int[] NO_POST = {-1, 7, 8, 10, LEAST, MOST};
    private static final int[] NO_WALKER = {-1, 3, 4, LEAST, MOST};
    private static final int[] NO_DIGIT = {-1, 10, LEAST, MOST};
    private static final int[] NO_KIND = {-1, 6, LEAST, MOST};
    private static final int[] NO_ARM = {-2, 9, LEAST, MOST};

    /** SHELVES: 0 bytes, 1 ints, 2 longs, 3 POST 5, 4 POST 6, 5 booleans, 6 an empty ROW of ints, 7 NOTHING. */
    private static final int A_POST = 3;
    private static final int EMPTY_ROW = 6;
    private static final int NO_ROW = 7;

    private interface Call {
        long answer(PointAtWhoIsLost x);
    }

    private interface By {
        long answer(PointAtWhoIsLost x, int wrong);
    }

    private static final String UNTOUCHED = Whole.laidOpen(made());

    public static void main(String[] args) {
        shelves();
        copies();
        fens();
        full();
        walkersAndTape();
        readings();
        pairs();
        groups();
        ways();
        walks();
        truth();
        neverRefused();
        asking();
        askingOfWays();
        Due.end();
    }

    private static PointAtWhoIsLost made() {
        PointAtWhoIsLost x = new PointAtWhoIsLost();
        x.side(6);
        x.bog(11, true);
        x.bog(24, true);
        x.home(1);
        int[] cells = {22, 22, 33, 0, 11, 44};
        for (int kind = 0; kind < 6; kind++) {
            x.post(kind, 3 + kind, cells[kind]);
        }
        x.walker(33, 4);
        x.walker(1, 6);
        x.walker(50, 9);
        x.seed(77);
        x.image();
        x.bog(12, true);
        x.post(0, 1, 5);
        x.sure(2, 0);
        x.seed(78);
        x.row(0, 0, 4);
        x.set(0, 0, 1);
        x.set(0, 1, 3);
        x.set(0, 2, -1);
        x.set(0, 3, 9);
        Due.ints(x, 1, 32, 31, 12);
        x.row(2, 3, 5);
        x.set(2, 0, 1L << 32);
        x.set(2, 3, -2);
        x.show(A_POST, 5);
        x.show(4, 6);
        x.row(5, 4, 2);
        x.row(EMPTY_ROW, 2, 0);
        Due.feed(x, "bog 13");
        return x;
    }

    private static void refused(String call, int want, Call by) {
        PointAtWhoIsLost x = made();
        Due.refused(x, call, want, () -> by.answer(x));
        Due.same("all there is, behind " + call, Whole.laidOpen(x), UNTOUCHED);
    }

    private static void each(String call, int[] wrongs, int want, By by) {
        for (int wrong : wrongs) {
            refused(call + ", x being " + wrong, want, x -> by.answer(x, wrong));
        }
    }

    private static void asked(String call, Call by) {
        PointAtWhoIsLost x = made();
        int[] ahead = {x.status(12), x.status(13), x.status(14), x.status(15), x.status(16)};
        by.answer(x);
        for (int i = 0; i < 5; i++) {
            Due.due("status(" + (12 + i) + ") behind " + call, x.status(12 + i), ahead[i]);
        }
        Due.same("all there is, behind " + call, Whole.laidOpen(x), UNTOUCHED);
    }

    private static void shelves() {
        each("row(x, 0, 0)", NO_SHELF, BAD, (x, w) -> x.row(w, 0, 0));
        each("row(0, x, 0)", new int[] {-1, 5, LEAST, MOST}, BAD, (x, w) -> x.row(0, w, 0));
        each("row(0, 0, x)", new int[] {-1, 41, LEAST, MOST}, BAD, (x, w) -> x.row(0, 0, w));
        each("set(x, 0, 1)", NO_SHELF, BAD, (x, w) -> x.set(w, 0, 1));
        each("set(0, x, 1)", new int[] {-1, 4, 5, 40, LEAST, MOST}, BAD, (x, w) -> x.set(0, w, 1));
        each("set of an empty ROW", new int[] {-1, 0, 1}, BAD, (x, w) -> x.set(EMPTY_ROW, w, 1));
        each("set of a POST", new int[] {0, -1, 40, MOST}, OTHER, (x, w) -> x.set(A_POST, w, 1));
        each("set of NOTHING", new int[] {0, -1, 40, MOST}, NOTHING, (x, w) -> x.set(NO_ROW, w, 1));
        each("show(x, 0)", NO_SHELF, BAD, (x, w) -> x.show(w, 0));
        each("show(x, NONE)", NO_SHELF, BAD, (x, w) -> x.show(w, -1));
        each("show(0, x)", new int[] {-2, 7, 8, 10, LEAST, MOST}, BAD, (x, w) -> x.show(0, w));
        each("says(x, 0)", NO_SHELF, BAD, (x, w) -> x.says(w, 0));
        each("says of a POST, x", NO_KIND, BAD, (x, w) -> x.says(A_POST, w));
        each("says of a ROW, x", NO_KIND, BAD, (x, w) -> x.says(0, w));
        each("says of NOTHING, x", NO_KIND, BAD, (x, w) -> x.says(NO_ROW, w));
        each("says of a ROW", new int[] {0, 1, 2, 3, 4, 5}, OTHER, (x, w) -> x.says(0, w));
        each("says of an empty ROW", new int[] {0, 5}, OTHER, (x, w) -> x.says(EMPTY_ROW, w));
        each("says of a TORN one", new int[] {1, 2, 3, 4}, OTHER, (x, w) -> x.says(A_POST, w));
        each("says of a POST of KIND POST", new int[] {1, 2, 3, 4, 5}, OTHER, (x, w) -> x.says(4, w));
        each("says of NOTHING", new int[] {0, 1, 2, 3, 4, 5}, NOTHING, (x, w) -> x.says(NO_ROW, w));
    }

    private static void copies() {
        each("copy(x, 1, 0, 0, 1)", NO_SHELF, BAD, (x, w) -> x.copy(w, 1, 0, 0, 1));
        each("copy(1, x, 0, 0, 1)", NO_SHELF, BAD, (x, w) -> x.copy(1, w, 0, 0, 1));
        each("copy(x, a POST, ..)", NO_SHELF, BAD, (x, w) -> x.copy(w, A_POST, 0, 0, 1));
        each("copy(a POST, x, ..)", NO_SHELF, BAD, (x, w) -> x.copy(A_POST, w, 0, 0, 1));
        each("copy(NOTHING, x, ..)", NO_SHELF, BAD, (x, w) -> x.copy(NO_ROW, w, 0, 0, 1));
        each("copy(a POST, x, ..)", new int[] {0, 3, 4, 6, 7}, OTHER, (x, w) -> x.copy(A_POST, w, -1, -1, -1));
        each("copy(x, a POST, ..)", new int[] {0, 3, 4, 6, 7}, OTHER, (x, w) -> x.copy(w, A_POST, -1, -1, -1));
        each("copy(bytes, another SORT)", new int[] {1, 2, 5, 6}, OTHER, (x, w) -> x.copy(0, w, -1, -1, -1));
        each("copy(another SORT, longs)", new int[] {0, 1, 5, 6}, OTHER, (x, w) -> x.copy(w, 2, -1, -1, -1));
        each("copy(NOTHING, x, ..)", new int[] {0, 1, 2, 5, 6, 7}, NOTHING, (x, w) -> x.copy(NO_ROW, w, -1, -1, -1));
        each("copy(x, NOTHING, ..)", new int[] {0, 1, 2, 5, 6, 7}, NOTHING, (x, w) -> x.copy(w, NO_ROW, -1, -1, -1));
        int[] beyond4 = {-1, 5, 40, LEAST, MOST};
        each("copy(0, 0, x, 0, 0)", beyond4, BAD, (x, w) -> x.copy(0, 0, w, 0, 0));
        each("copy(0, 0, 0, x, 0)", beyond4, BAD, (x, w) -> x.copy(0, 0, 0, w, 0));
        each("copy(0, 0, 0, 0, x)", beyond4, BAD, (x, w) -> x.copy(0, 0, 0, 0, w));
        each("copy(0, 0, x, 0, 2)", new int[] {-2, -1, 3, 4, LEAST, MOST, MOST - 1}, BAD, (x, w) -> x.copy(0, 0, w, 0, 2));
        each("copy(0, 0, 0, x, 2)", new int[] {-2, -1, 3, 4, LEAST, MOST, MOST - 1}, BAD, (x, w) -> x.copy(0, 0, 0, w, 2));
        each("copy(0, 0, 2, 2, x)", new int[] {-2, -1, 3, 4, LEAST, MOST, MOST - 1}, BAD, (x, w) -> x.copy(0, 0, 2, 2, w));
        each("copy(1, an empty ROW, ..)", new int[] {-1, 1, 3}, BAD, (x, w) -> x.copy(1, EMPTY_ROW, 0, 0, w));
        each("copy(an empty ROW, 1, ..)", new int[] {-1, 1, 3}, BAD, (x, w) -> x.copy(EMPTY_ROW, 1, 0, 0, w));
    }

    private static void fens() {
        each("side(x)", new int[] {-1, 0, 2, 3, 4, 5, 8, LEAST, MOST}, BAD, (x, w) -> x.side(w));
        each("bog(x, true)", NO_CELL, BAD, (x, w) -> x.bog(w, true));
        each("bog(x, false)", NO_CELL, BAD, (x, w) -> x.bog(w, false));
        each("bog(x, true) at HOME, at WALKERS", new int[] {1, 33, 50}, STUCK, (x, w) -> x.bog(w, true));
        each("home(x)", NO_CELL, BAD, (x, w) -> x.home(w));
        each("home(x) in BOG", new int[] {11, 12, 24}, STUCK, (x, w) -> x.home(w));
        each("post(x, 0, 0)", NO_KIND, BAD, (x, w) -> x.post(w, 0, 0));
        each("post(0, x, 0)", NO_DIGIT, BAD, (x, w) -> x.post(0, w, 0));
        each("post(0, 0, x)", NO_CELL, BAD, (x, w) -> x.post(0, 0, w));
        each("walker(x, 0)", NO_CELL, BAD, (x, w) -> x.walker(w, 0));
        each("walker(0, x)", NO_DIGIT, BAD, (x, w) -> x.walker(0, w));
        each("walker(12, x) in BOG", NO_DIGIT, BAD, (x, w) -> x.walker(12, w));
        each("walker(x, 0) in BOG", new int[] {11, 12, 24}, STUCK, (x, w) -> x.walker(w, 0));
        each("sure(x, 0)", NO_WALKER, BAD, (x, w) -> x.sure(w, 0));
        each("sure(0, x)", NO_DIGIT, BAD, (x, w) -> x.sure(0, w));
    }

    /** What there is no room for; what is BAD or STUCK besides is refused as that. */
    private static void full() {
        fullOf("post(0, 0, 0)", FULL, x -> x.post(0, 0, 0));
        fullOf("post(5, 9, 55)", FULL, x -> x.post(5, 9, 55));
        fullOf("post(6, 0, 0)", BAD, x -> x.post(6, 0, 0));
        fullOf("post(0, 10, 0)", BAD, x -> x.post(0, 10, 0));
        fullOf("post(0, 0, 60)", BAD, x -> x.post(0, 0, 60));
        fullOf("walker(0, 0)", FULL, x -> x.walker(0, 0));
        fullOf("walker(1, 9) at HOME", FULL, x -> x.walker(1, 9));
        fullOf("walker(12, 0) in BOG", STUCK, x -> x.walker(12, 0));
        fullOf("walker(12, 10) in BOG", BAD, x -> x.walker(12, 10));
        fullOf("walker(6, 0)", BAD, x -> x.walker(6, 0));
    }

    private static PointAtWhoIsLost madeFull() {
        PointAtWhoIsLost x = made();
        Due.due("the eighth POST", x.post(3, 9, 12), 7);
        Due.due("the fourth WALKER", x.walker(0, 5), 3);
        return x;
    }

    private static void fullOf(String call, int want, Call by) {
        PointAtWhoIsLost x = madeFull();
        Due.refused(x, call + ", FULL", want, () -> by.answer(x));
        Due.same("all there is, behind " + call + ", FULL", Whole.laidOpen(x), Whole.laidOpen(madeFull()));
    }

    private static void walkersAndTape() {
        each("feed(x)", new int[] {-1, 256, 257, 288, LEAST, MOST}, BAD, (x, w) -> x.feed(w));
        int[] wrongs = {0, 32, 255, -1, 256};
        int[] due = {FULL, FULL, FULL, BAD, BAD};
        for (int i = 0; i < wrongs.length; i++) {
            int wrong = wrongs[i];
            int want = due[i];
            PointAtWhoIsLost x = new PointAtWhoIsLost();
            Due.feed(x, "home 11" + " ".repeat(242) + ";");
            Due.due("THE TAPE is full", x.status(6), 250);
            Due.refused(x, "feed(" + wrong + ") of a full TAPE", want, () -> x.feed(wrong));
            Due.due("THE TAPE's size", x.status(6), 250);
            Due.due("what stood on it: a STATEMENT is wanted behind ;", x.fen(), -270);
            Due.due("HOME", x.status(2), 0);
        }
    }

    private static void readings() {
        each("postOf(x, 0)", NO_POST, BAD, (x, w) -> x.postOf(w, 0));
        each("postOf(0, x)", new int[] {-1, 4, LEAST, MOST}, BAD, (x, w) -> x.postOf(0, w));
        each("walkerOf(x, 0)", NO_WALKER, BAD, (x, w) -> x.walkerOf(w, 0));
        each("walkerOf(0, x)", new int[] {-1, 4, LEAST, MOST}, BAD, (x, w) -> x.walkerOf(0, w));
        each("isBog(x)", NO_CELL, BAD, (x, w) -> x.isBog(w));
        each("way(x, 0)", NO_CELL, BAD, (x, w) -> x.way(w, 0));
        each("way(0, x)", NO_CELL, BAD, (x, w) -> x.way(0, w));
        each("way(x, x)", NO_CELL, BAD, (x, w) -> x.way(w, w));
        each("arm(x, 0)", NO_POST, BAD, (x, w) -> x.arm(w, 0));
        each("arm(0, x)", NO_CELL, BAD, (x, w) -> x.arm(0, w));
        each("kinds(x, 0)", NO_POST, BAD, (x, w) -> x.kinds(w, 0));
        each("kinds(0, x)", NO_ARM, BAD, (x, w) -> x.kinds(0, w));
        each("armed(x, 0)", NO_CELL, BAD, (x, w) -> x.armed(w, 0));
        each("armed(0, x)", NO_ARM, BAD, (x, w) -> x.armed(0, w));
        each("right(x)", NO_POST, BAD, (x, w) -> x.right(w));
        each("pointing(x)", NO_WALKER, BAD, (x, w) -> x.pointing(w));
    }

    private static void pairs() {
        each("where(x, 0, NONE)", NO_SHELF, BAD, (x, w) -> x.where(w, 0, -1));
        each("of(x, 0, 0)", NO_SHELF, BAD, (x, w) -> x.of(w, 0, 0));
        int[] shelves = {0, A_POST, NO_ROW};
        for (int s : shelves) {
            each("where(" + s + ", x, NONE)", new int[] {-1, 21, LEAST, MOST}, BAD, (x, w) -> x.where(s, w, -1));
            each("of(" + s + ", x, 0)", new int[] {-1, 21, LEAST, MOST}, BAD, (x, w) -> x.of(s, w, 0));
            each("where(" + s + ", 0, x)", new int[] {-2, -3, LEAST}, BAD, (x, w) -> x.where(s, 0, w));
            each("of(" + s + ", 0, x)", new int[] {-1, 2, LEAST, MOST}, BAD, (x, w) -> x.of(s, 0, w));
        }
        each("where of a POST", new int[] {0, 1, 20}, OTHER, (x, w) -> x.where(A_POST, w, MOST));
        each("where of NOTHING", new int[] {0, 1, 20}, NOTHING, (x, w) -> x.where(NO_ROW, w, MOST));
        each("of of a POST", new int[] {0, 1, 20}, OTHER, (x, w) -> x.of(A_POST, w, 0));
        each("of of NOTHING", new int[] {0, 1, 20}, NOTHING, (x, w) -> x.of(NO_ROW, w, 1));
        each("where by more than there is", new int[] {3, 4, 20}, BAD, (x, w) -> x.where(0, w, MOST));
        each("of by more than there is", new int[] {3, 4, 20}, BAD, (x, w) -> x.of(0, w, 1));
        refused("where by half a pair more", BAD, x -> x.where(1, 2, -1));
        refused("of by half a pair more", BAD, x -> x.of(2, 3, 0));
        refused("where by an empty ROW", BAD, x -> x.where(EMPTY_ROW, 1, -1));
        each("where by POST -1", new int[] {-1, 0, MOST}, STUCK, (x, w) -> x.where(0, 2, w));
        each("where by POST 2 to the 32nd", new int[] {-1, 0, MOST}, STUCK, (x, w) -> x.where(2, 1, w));
        each("where by POST 32", new int[] {-1, 0, MOST}, STUCK, (x, w) -> x.where(1, 1, w));
        each("of by POST -1", new int[] {0, 1}, STUCK, (x, w) -> x.of(0, 2, w));
        each("of by POST 2 to the 32nd", new int[] {0, 1}, STUCK, (x, w) -> x.of(2, 1, w));
        // 33 of 36 CELLS are no BOG
        each("where, not so many", new int[] {33, 34, 40, MOST}, STUCK, (x, w) -> x.where(0, 0, w));
    }

    private static void groups() {
        each("apart(x)", new int[] {-1, 3, LEAST, MOST}, BAD, (x, w) -> x.apart(w));
        each("fewest(x)", new int[] {-1, 2, LEAST, MOST}, BAD, (x, w) -> x.fewest(w));
        each("alike(x)", NO_CELL, BAD, (x, w) -> x.alike(w));
        each("alike(x) in BOG", new int[] {11, 12, 24}, BAD, (x, w) -> x.alike(w));
    }

    private static void ways() {
        each("leads(x, 0)", NO_WALKER, BAD, (x, w) -> x.leads(w, 0));
        each("leads(0, x)", NO_CELL, BAD, (x, w) -> x.leads(0, w));
        each("reach(x, 0)", NO_CELL, BAD, (x, w) -> x.reach(w, 0));
        each("reach(0, x)", new int[] {-1, 71, LEAST, MOST}, BAD, (x, w) -> x.reach(0, w));
        each("open(x)", NO_CELL, BAD, (x, w) -> x.open(w));
        each("worst(x)", new int[] {-1, 2, LEAST, MOST}, BAD, (x, w) -> x.worst(w));
        each("path(x, 0)", NO_CELL, BAD, (x, w) -> x.path(w, 0));
        each("path(0, x)", NO_CELL, BAD, (x, w) -> x.path(0, w));
        each("path(x, x)", NO_CELL, BAD, (x, w) -> x.path(w, w));
    }

    private static void walks() {
        told("x, 0, 0", NO_SHELF, BAD, (w, walk) -> walk.of(w, 0, 0));
        int[] shelves = {1, A_POST, NO_ROW};
        for (int s : shelves) {
            told(s + ", x, 0", new int[] {-1, 41, LEAST, MOST}, BAD, (w, walk) -> walk.of(s, w, 0));
            told(s + ", 0, x", NO_WALKER, BAD, (w, walk) -> walk.of(s, 0, w));
        }
        told("a POST, x, 0", new int[] {0, 1, 40}, OTHER, (w, walk) -> walk.of(A_POST, w, 0));
        told("NOTHING, x, 0", new int[] {0, 1, 40}, NOTHING, (w, walk) -> walk.of(NO_ROW, w, 0));
        told("fewer elements, x, 0", new int[] {4, 5, 40}, BAD, (w, walk) -> walk.of(1, w, 0));
        told("an empty ROW, x, 0", new int[] {1, 40}, BAD, (w, walk) -> walk.of(EMPTY_ROW, w, 0));
        // 33 to 32 and 31 is right, 12 behind it is not; 2 to the 32nd is no CELL
        refused("nears, WRONG at the end", STUCK, x -> x.nears(1, 3, 0));
        refused("done, WRONG at the end", STUCK, x -> x.done(1, 3, 0));
        each("nears, WRONG at once", new int[] {1, 2, 3}, STUCK, (x, w) -> x.nears(1, w, 1));
        each("done, WRONG at once", new int[] {1, 2, 3}, STUCK, (x, w) -> x.done(1, w, 1));
        refused("nears, no CELL", STUCK, x -> x.nears(2, 1, 1));
        refused("done, no CELL", STUCK, x -> x.done(2, 1, 1));
    }

    private interface Walk {
        long of(int s, int n, int walker);
    }

    private interface Told {
        long answer(int wrong, Walk walk);
    }

    private static void told(String call, int[] wrongs, int want, Told by) {
        each("judge(" + call + ")", wrongs, want, (x, w) -> by.answer(w, x::judge));
        each("nears(" + call + ")", wrongs, want, (x, w) -> by.answer(w, x::nears));
        each("done(" + call + ")", wrongs, want, (x, w) -> by.answer(w, x::done));
    }

    private static void truth() {
        each("goes(x, 0)", NO_WALKER, BAD, (x, w) -> x.goes(w, 0));
        each("goes(0, x)", new int[] {-1, 5, LEAST, MOST}, BAD, (x, w) -> x.goes(0, w));
        each("goes(2, x) off the fen", new int[] {2, 3}, STUCK, (x, w) -> x.goes(2, w));
        each("goes(1, x) off the fen, into BOG", new int[] {1, 2}, STUCK, (x, w) -> x.goes(1, w));
        each("days(x)", new int[] {-1, 0, 61, LEAST, MOST}, BAD, (x, w) -> x.days(w));
    }

    private static void neverRefused() {
        int[] wild = {-2, -1, 0, 5, 7, 8, 9, 10, 11, 17, 18, 40, 41, LEAST, MOST};
        for (int w : wild) {
            asked("element(" + w + ", 0)", x -> x.element(w, 0));
            asked("element(0, " + w + ")", x -> x.element(0, w));
            asked("element(a POST, " + w + ")", x -> x.element(A_POST, w));
            asked("element(NOTHING, " + w + ")", x -> x.element(NO_ROW, w));
            asked("holds(" + w + ")", x -> x.holds(w));
            asked("status(" + w + ")", x -> x.status(w));
        }
    }

    private static void asking() {
        for (int kind = 0; kind < 6; kind++) {
            int k = kind;
            asked("postOf(" + k + ", 3)", x -> x.postOf(k, 3));
            asked("arm(" + k + ", 12) in BOG", x -> x.arm(k, 12));
            asked("right(" + k + ")", x -> x.right(k));
            asked("kinds(" + k + ", NONE)", x -> x.kinds(k, -1));
            asked("armed(24, " + k + ")", x -> x.armed(24, k));
        }
        asked("says(3, 0)", x -> x.says(A_POST, 0));
        asked("says(3, 5)", x -> x.says(A_POST, 5));
        asked("kinds(0, 8)", x -> x.kinds(0, 8));
        asked("armed(0, NONE)", x -> x.armed(0, -1));
        asked("pointing(2)", x -> x.pointing(2));
        asked("trembling()", x -> x.trembling());
        asked("way(11, 55)", x -> x.way(11, 55));
        asked("where(0, 1, NONE)", x -> x.where(0, 1, -1));
        asked("where(0, 1, 0)", x -> x.where(0, 1, 0));
        asked("where(6, 0, 32)", x -> x.where(EMPTY_ROW, 0, 32));
        asked("of(0, 1, 0)", x -> x.of(0, 1, 0));
        asked("of(0, 1, 1)", x -> x.of(0, 1, 1));
        asked("of(6, 0, 0)", x -> x.of(EMPTY_ROW, 0, 0));
        for (int what = 0; what < 3; what++) {
            int w = what;
            asked("apart(" + w + ")", x -> x.apart(w));
        }
        asked("fewest(0)", x -> x.fewest(0));
        asked("fewest(1)", x -> x.fewest(1));
        asked("more()", x -> x.more());
        asked("alike(0)", x -> x.alike(0));
        asked("bestPair()", x -> x.bestPair());
        asked("idlest()", x -> x.idlest());
    }

    private static void askingOfWays() {
        asked("walkerOf(0, 3)", x -> x.walkerOf(0, 3));
        asked("leads(0, 1)", x -> x.leads(0, 1));
        asked("leads(0, 11) to BOG", x -> x.leads(0, 11));
        asked("leads(0, 33) where he is", x -> x.leads(0, 33));
        asked("reach(11, 0)", x -> x.reach(11, 0));
        asked("reach(0, 70)", x -> x.reach(0, 70));
        asked("open(12)", x -> x.open(12));
        asked("parts()", x -> x.parts());
        asked("worst(0)", x -> x.worst(0));
        asked("worst(1)", x -> x.worst(1));
        asked("path(0, 11) to BOG", x -> x.path(0, 11));
        asked("path(11, 55)", x -> x.path(11, 55));
        asked("found()", x -> x.found());
        asked("meet()", x -> x.meet());
        asked("judge(1, 2, 0)", x -> x.judge(1, 2, 0));
        asked("judge(1, 3, 0) WRONG", x -> x.judge(1, 3, 0));
        asked("nears(1, 2, 0)", x -> x.nears(1, 2, 0));
        asked("nears(6, 0, 0)", x -> x.nears(EMPTY_ROW, 0, 0));
        asked("copy(0, 0, 4, 4, 0)", x -> x.copy(0, 0, 4, 4, 0));
        asked("copy(0, 0, 0, 0, 4) onto itself", x -> x.copy(0, 0, 0, 0, 4));
        asked("copy(6, 1, 0, 3, 0) of nothing", x -> x.copy(EMPTY_ROW, 1, 0, 3, 0));
        asked("side(6) as it is", x -> x.side(6));
        asked("bog(12, true) as it is", x -> x.bog(12, true));
        asked("bog(1, false) at HOME", x -> x.bog(1, false));
        asked("bog(33, false) at a WALKER", x -> x.bog(33, false));
        asked("home(1) as it is", x -> x.home(1));
        asked("sure(0, 4) as it is", x -> x.sure(0, 4));
        asked("seed(78) as it is", x -> x.seed(78));
        asked("show(7, NONE) as it is", x -> x.show(NO_ROW, -1));
        asked("show(3, 5) as it is", x -> x.show(A_POST, 5));
        asked("goes(2, 0) stays", x -> x.goes(2, 0));
        asked("done(6, 0, 0), an empty WALK away from HOME", x -> x.done(EMPTY_ROW, 0, 0));
    }
}
