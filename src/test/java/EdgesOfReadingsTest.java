/** The edges of WAYS and ARMS (section 2, promises 18 to 22, 25, 29, 31 to 33): on them, just within, just beyond. */
public final class EdgesOfReadingsTest {
    /** WAY by d ROWS down (-6 to 6, line by line) and e COLUMNS right (-6 to 6). */
    private static final String[] WAY = {
        "7777000001111",
        "7777000001111",
        "7777700011111",
        "7777700011111",
        "6677770111122",
        "6666770112222",
        "6666668222222",
        "6666554332222",
        "6655554333322",
        "5555544433333",
        "5555544433333",
        "5555444443333",
        "5555444443333"};
    private static final String EIGHT = "post 0 0 0;post 1 1 11;post 2 2 22;post 3 3 33;post 4 4 44;post 5 5 4;post 0 6 40;post 1 7 31";

    public static void main(String[] args) {
        wayOfAllPairs();
        armsOfAllKindsForOne();
        nobodyIsLost();
        moreThanOneIsLost();
        keenLooksAtTheNearestOfSeveralTheFirst();
        onlyWhoIsLostCounts();
        tornAddsUp();
        turnedModulo8();
        postOfTells();
        walkerOfTells();
        isBogTells();
        armInBog();
        kindsByEveryArm();
        kindsTakeOneThere();
        armedByEveryArm();
        rightCountsCells();
        pointingAtAWalker();
        tremblingPosts();
        Due.end();
    }

    private static int wayDue(int from, int to) {
        return WAY[to / 10 - from / 10 + 6].charAt(to % 10 - from % 10 + 6) - '0';
    }

    private static int steps(int from, int to) {
        return Math.abs(to / 10 - from / 10) + Math.abs(to % 10 - from % 10);
    }

    private static void wayOfAllPairs() {
        for (int from = 0; from <= 66; from++) {
            if (from % 10 < 7) {
                PointAtWhoIsLost x = Due.of("side 7;home 1;bog 0;bog 33");
                for (int to = 0; to <= 66; to++) {
                    if (to % 10 < 7) {
                        Due.due("way(" + from + ", " + to + ")", x.way(from, to), wayDue(from, to));
                    }
                }
            }
        }
    }

    private static int armDue(int kind, int a, int from, int to) {
        int way = wayDue(from, to);
        int lazy = steps(from, to) > a ? -1 : way;
        switch (kind) {
            case 2:
                return lazy;
            case 3:
                return way == 8 ? 8 : way == 7 ? 0 : way + 1;
            case 4:
                return lazy == 8 || lazy == -1 ? lazy : lazy < 4 ? lazy + 4 : lazy - 4;
            default:
                return way;
        }
    }

    /** All KINDS, all a, a single LOST one in every CELL of the widest fen, far STEPS away and near. */
    private static void armsOfAllKindsForOne() {
        int[] cells = {0, 6, 25, 33, 60, 66};
        for (int from : cells) {
            for (int a = 0; a <= 9; a++) {
                PointAtWhoIsLost x = new PointAtWhoIsLost();
                x.side(7);
                for (int kind = 0; kind < 6; kind++) {
                    x.post(kind, a, from);
                }
                for (int cell = 0; cell <= 66; cell++) {
                    for (int kind = 0; kind < 6 && cell % 10 < 7; kind++) {
                        String call = "arm of KIND " + kind + ", a " + a + ", from " + from + " to " + cell;
                        Due.due(call, x.arm(kind, cell), armDue(kind, a, from, cell));
                    }
                }
                Due.due("REFUSALS", x.status(12), 0);
            }
        }
    }

    private static void arms(PointAtWhoIsLost x, String when, int... want) {
        for (int post = 0; post < want.length; post++) {
            int p = post;
            Due.accepted(x, when + ": ARM of " + p, want[p], () -> x.postOf(p, 3));
        }
    }

    private static PointAtWhoIsLost ofAllKinds(int a, int cell, String more) {
        StringBuilder text = new StringBuilder("side 7");
        for (int kind = 0; kind < 6; kind++) {
            text.append(";post ").append(kind).append(' ').append(a).append(' ').append(cell);
        }
        return Due.of(text + more);
    }

    private static void nobodyIsLost() {
        arms(ofAllKinds(9, 33, ""), "no WALKERS", -1, -1, -1, -1, -1, -1);
        arms(ofAllKinds(9, 33, ";walker 33 5"), "SURE 5, here", -1, -1, -1, -1, -1, -1);
        arms(ofAllKinds(9, 33, ";walker 34 9;walker 33 6"), "two who are SURE", -1, -1, -1, -1, -1, -1);
        arms(ofAllKinds(9, 33, ";walker 34 4"), "SURE 4", 2, 2, 2, 3, 6, 2);
        arms(ofAllKinds(0, 33, ";walker 33 0"), "here", 8, 8, 8, 8, 8, 8);
    }

    private static void moreThanOneIsLost() {
        arms(ofAllKinds(9, 33, ";walker 34 4;walker 35 4"), "two", -1, 2, -1, 3, -1, 2);
        arms(ofAllKinds(9, 33, ";walker 34 4;walker 34 4"), "two in one CELL", -1, 2, -1, 3, -1, 2);
        arms(ofAllKinds(9, 33, ";walker 33 4;walker 33 4"), "two here", -1, 8, -1, 8, -1, 8);
        arms(ofAllKinds(9, 33, ";walker 34 4;walker 35 4;walker 36 4;walker 33 4"), "four", -1, 8, -1, 8, -1, 2);
        arms(ofAllKinds(0, 33, ";walker 34 4;walker 33 4"), "two, one of them within a", -1, 8, -1, 8, -1, 2);
    }

    private static void keenLooksAtTheNearestOfSeveralTheFirst() {
        keen("23 0;walker 43 0", 0);
        keen("43 0;walker 23 0", 4);
        keen("13 0;walker 43 0", 4);
        keen("43 0;walker 13 0", 4);
        keen("22 0;walker 35 0", 7);
        keen("35 0;walker 22 0", 2);
        keen("36 0;walker 22 0", 7);
        keen("66 0;walker 0 0;walker 6 0;walker 60 0", 3);
        keen("66 0;walker 2 0;walker 6 0;walker 60 0", 0);
        keen("65 0;walker 10 0;walker 61 0;walker 6 0", 3);
        keen("33 0;walker 32 0", 8);
        keen("32 0;walker 33 0", 8);
    }

    private static void keen(String walkers, int way) {
        PointAtWhoIsLost x = Due.of("side 7;post 1 0 33;post 3 0 33;walker " + walkers);
        arms(x, "walkers " + walkers, way, way == 8 ? 8 : (way + 1) % 8);
    }

    private static void onlyWhoIsLostCounts() {
        arms(ofAllKinds(9, 33, ";walker 34 5;walker 30 4"), "the nearer one is SURE", 6, 6, 6, 7, 2, 6);
        arms(ofAllKinds(9, 33, ";walker 30 4;walker 34 5"), "the nearer one behind", 6, 6, 6, 7, 2, 6);
        PointAtWhoIsLost x = ofAllKinds(9, 33, ";walker 30 4;walker 34 4;walker 3 4");
        arms(x, "three", -1, 2, -1, 3, -1, 7);
        x.sure(1, 5);
        arms(x, "the first and the third", -1, 6, -1, 7, -1, 7);
        x.sure(0, 5);
        arms(x, "the third", 0, 0, 0, 1, 4, 0);
        x.sure(2, 5);
        arms(x, "nobody", -1, -1, -1, -1, -1, -1);
        x.sure(1, 0);
        arms(x, "the second", 2, 2, 2, 3, 6, 2);
    }

    private static void torn(int from, String walkers, int way) {
        PointAtWhoIsLost x = Due.of("side 7;post 5 0 " + from + ";walker " + walkers);
        arms(x, "TORN from " + from + ", walkers " + walkers, way);
    }

    private static void tornAddsUp() {
        torn(33, "23 0;walker 43 0", 8);
        torn(33, "23 0;walker 43 0;walker 32 0;walker 34 0", 8);
        torn(33, "0 0;walker 66 0", 8);
        torn(33, "0 0;walker 65 0", 6);
        torn(33, "0 0;walker 56 0", 0);
        torn(33, "33 0;walker 33 0;walker 33 0", 8);
        // 24 down and 12 right, 11 right; 12 and 11 down, 24 right
        torn(0, "63 0;walker 63 0;walker 63 0;walker 63 0", 3);
        torn(0, "63 0;walker 63 0;walker 63 0;walker 62 0", 4);
        torn(0, "36 0;walker 36 0;walker 36 0;walker 36 0", 3);
        torn(0, "36 0;walker 36 0;walker 36 0;walker 26 0", 2);
        torn(66, "3 0;walker 3 0;walker 3 0;walker 3 0", 7);
        torn(66, "3 0;walker 3 0;walker 3 0;walker 4 0", 0);
        torn(66, "30 0;walker 30 0;walker 30 0;walker 30 0", 7);
        torn(66, "30 0;walker 30 0;walker 30 0;walker 40 0", 6);
        torn(6, "63 0;walker 63 0", 5);
        torn(60, "36 0;walker 36 0", 1);
        // who isn't LOST pulls nobody
        torn(33, "23 0;walker 43 5", 0);
        torn(33, "23 9;walker 43 0", 4);
        // 2 down and 4, 5 right
        torn(0, "12 0;walker 12 0", 3);
        torn(0, "12 0;walker 13 0", 2);
        torn(0, "21 0;walker 21 0", 3);
        torn(0, "21 0;walker 31 0", 4);
    }

    private static void turnedModulo8() {
        PointAtWhoIsLost x = Due.of("post 3 0 22;post 4 9 22");
        int[] cells = {12, 13, 23, 33, 32, 31, 21, 11, 22};
        int[] wild = {1, 2, 3, 4, 5, 6, 7, 0, 8};
        int[] rotten = {4, 5, 6, 7, 0, 1, 2, 3, 8};
        for (int i = 0; i < cells.length; i++) {
            Due.due("WILD to " + cells[i], x.arm(0, cells[i]), wild[i]);
            Due.due("ROTTEN to " + cells[i], x.arm(1, cells[i]), rotten[i]);
        }
    }

    private static void postOfTells() {
        PointAtWhoIsLost x = Due.of(EIGHT);
        int[] cells = {0, 11, 22, 33, 44, 4, 40, 31};
        for (int post = 0; post < 8; post++) {
            int p = post;
            Due.accepted(x, "KIND of " + p, p % 6, () -> x.postOf(p, 0));
            Due.accepted(x, "a of " + p, p, () -> x.postOf(p, 1));
            Due.accepted(x, "CELL of " + p, cells[p], () -> x.postOf(p, 2));
            Due.accepted(x, "ARM of " + p, -1, () -> x.postOf(p, 3));
        }
        Due.refused(x, "postOf(8, 0)", -2, () -> x.postOf(8, 0));
        Due.refused(x, "postOf(7, 4)", -2, () -> x.postOf(7, 4));
        Due.refused(x, "postOf(7, -1)", -2, () -> x.postOf(7, -1));
        PointAtWhoIsLost none = new PointAtWhoIsLost();
        Due.refused(none, "postOf(0, 0) of none", -2, () -> none.postOf(0, 0));
    }

    private static void walkerOfTells() {
        PointAtWhoIsLost x = Due.of("side 7;walker 0 0;walker 66 9;walker 33 4;walker 34 5");
        int[][] want = {{0, 0, 1, 0}, {66, 9, 0, 12}, {33, 4, 1, 6}, {34, 5, 0, 7}};
        for (int walker = 0; walker < 4; walker++) {
            for (int what = 0; what < 4; what++) {
                int w = walker;
                int q = what;
                Due.accepted(x, "walkerOf(" + w + ", " + q + ")", want[w][q], () -> x.walkerOf(w, q));
            }
        }
        Due.refused(x, "walkerOf(4, 0)", -2, () -> x.walkerOf(4, 0));
        Due.refused(x, "walkerOf(3, 4)", -2, () -> x.walkerOf(3, 4));
        Due.refused(x, "walkerOf(3, -1)", -2, () -> x.walkerOf(3, -1));
        Due.fen(x, "bog 1;bog 10");
        Due.accepted(x, "OUT of who is at HOME, shut in", 0, () -> x.walkerOf(0, 3));
        Due.accepted(x, "OUT of who is shut out", -1, () -> x.walkerOf(1, 3));
        x.home(65);
        Due.accepted(x, "OUT, shut in, HOME elsewhere", -1, () -> x.walkerOf(0, 3));
        Due.accepted(x, "OUT beside HOME", 1, () -> x.walkerOf(1, 3));
    }

    private static void isBogTells() {
        PointAtWhoIsLost x = Due.of("side 6;home 1;bog 0;bog 55");
        Due.accepted(x, "the first CELL", 1, () -> x.isBog(0));
        Due.accepted(x, "the last CELL", 1, () -> x.isBog(55));
        Due.accepted(x, "beside the first", 0, () -> x.isBog(1));
        Due.accepted(x, "beside the last", 0, () -> x.isBog(54));
        Due.refused(x, "off the right", -2, () -> x.isBog(56));
        Due.refused(x, "off the bottom", -2, () -> x.isBog(65));
    }

    private static void armInBog() {
        PointAtWhoIsLost x = Due.of("post 0 0 22;post 2 1 22;bog 22;bog 23;bog 24;walker 0 0;walker 1 0");
        Due.accepted(x, "where it is, in BOG", 8, () -> x.arm(0, 22));
        Due.accepted(x, "beside it, in BOG", 2, () -> x.arm(0, 23));
        Due.accepted(x, "LAZY, in BOG", 2, () -> x.arm(1, 23));
        Due.accepted(x, "LAZY, too far, in BOG: NONE isn't refused", -1, () -> x.arm(1, 24));
        Due.accepted(x, "armed in BOG", 3, () -> x.armed(23, 2));
        Due.accepted(x, "armed in BOG, trembling", 2, () -> x.armed(24, -1));
    }

    /** Each KIND has just one ARM, so that the bits of all ARMS together are all KINDS. */
    private static void kindsByEveryArm() {
        String[] walkers = {"", ";walker 34 0", ";walker 33 0", ";walker 35 0", ";walker 23 0;walker 43 0", ";walker 0 0;walker 1 4;walker 5 0"};
        int[][] want = {
            // by ARMS -1 to 8
            {63, 0, 0, 0, 0, 0, 0, 0, 0, 0},
            {0, 0, 0, 1 | 2 | 4 | 32, 8, 0, 0, 16, 0, 0},
            {0, 0, 0, 0, 0, 0, 0, 0, 0, 63},
            {4 | 16, 0, 0, 1 | 2 | 32, 8, 0, 0, 0, 0, 0},
            {1 | 4 | 16, 2, 8, 0, 0, 0, 0, 0, 0, 32},
            // KEEN: 3 up and 2 left, the first of two as near; TORN: 9 up and 3 left
            {1 | 4 | 16, 8 | 32, 0, 0, 0, 0, 0, 0, 2, 0}};
        for (int i = 0; i < walkers.length; i++) {
            for (int kind = 0; kind < 6; kind++) {
                PointAtWhoIsLost x = Due.of("side 7;post " + kind + " 1 33" + walkers[i]);
                for (int arm = -1; arm <= 8; arm++) {
                    int r = arm;
                    Due.accepted(x, "walkers '" + walkers[i] + "': kinds(0, " + arm + ")", want[i][arm + 1], () -> x.kinds(0, r));
                }
                Due.due("its KIND", x.postOf(0, 0), kind);
            }
        }
    }

    private static void kindsTakeOneThere() {
        PointAtWhoIsLost x = Due.of("post 0 0 0;post 0 1 0;walker 1 0");
        Due.due("a 0, 1 STEP", x.kinds(0, -1), 4 | 16);
        Due.due("a 1, 1 STEP", x.kinds(1, -1), 0);
        Due.due("a 1: ROTTEN", x.kinds(1, 6), 16);
        PointAtWhoIsLost none = new PointAtWhoIsLost();
        Due.refused(none, "kinds of none", -2, () -> none.kinds(0, 0));
    }

    private static void armedByEveryArm() {
        PointAtWhoIsLost x = Due.of(EIGHT + ";bog 42;walker 0 0;walker 1 0");
        int[] cells = {0, 22, 42, 44};
        for (int cell : cells) {
            int all = 0;
            for (int arm = -1; arm <= 8; arm++) {
                int bits = 0;
                for (int post = 0; post < 8; post++) {
                    bits |= x.arm(post, cell) == arm ? 1 << post : 0;
                }
                Due.due("armed(" + cell + ", " + arm + ")", x.armed(cell, arm), bits);
                all |= bits;
            }
            Due.due("all POSTS have an ARM", all, 255);
        }
        Due.due("armed(44, 8)", x.armed(44, 8), 16);
        Due.due("armed(44, 3)", x.armed(44, 3), 1 | 2);
        Due.due("armed(44, NONE)", x.armed(44, -1), 4);
        PointAtWhoIsLost none = new PointAtWhoIsLost();
        for (int arm = -1; arm <= 8; arm++) {
            int r = arm;
            Due.accepted(none, "armed(0, " + arm + "), no POSTS", 0, () -> none.armed(0, r));
        }
    }

    private static void rightCountsCells() {
        // from the middle of SIDE 5, so many CELLS are a STEPS away at most
        int[] within = {1, 5, 13, 21, 25, 25, 25, 25, 25, 25};
        for (int a = 0; a <= 9; a++) {
            PointAtWhoIsLost x = ofFive(a, 22, "");
            int[] want = {25, 25, within[a], 1, 1, 25};
            for (int kind = 0; kind < 6; kind++) {
                int k = kind;
                Due.accepted(x, "right of KIND " + k + ", a " + a, want[k], () -> x.right(k));
            }
            PointAtWhoIsLost y = ofFive(a, 22, ";bog 22;bog 23");
            int[] less = {23, 23, Math.max(0, within[a] - (a == 0 ? 1 : 2)), 0, 0, 23};
            for (int kind = 0; kind < 6; kind++) {
                Due.due("right of KIND " + kind + " in BOG, a " + a, y.right(kind), less[kind]);
            }
        }
        PointAtWhoIsLost none = new PointAtWhoIsLost();
        Due.refused(none, "right of none", -2, () -> none.right(0));
    }

    private static PointAtWhoIsLost ofFive(int a, int cell, String more) {
        StringBuilder text = new StringBuilder("side 5");
        for (int kind = 0; kind < 6; kind++) {
            text.append(";post ").append(kind).append(' ').append(a).append(' ').append(cell);
        }
        return Due.of(text + more);
    }

    private static void pointingAtAWalker() {
        PointAtWhoIsLost x = ofFive(1, 22, ";walker 22 5;walker 33 5;walker 23 0");
        Due.accepted(x, "at who isn't LOST, where the POSTS are", 0, () -> x.pointing(0));
        Due.accepted(x, "at who isn't LOST: WILD does", 8, () -> x.pointing(1));
        Due.accepted(x, "at who is LOST: all but WILD and ROTTEN", 1 | 2 | 4 | 32, () -> x.pointing(2));
        x.sure(2, 5);
        for (int walker = 0; walker < 3; walker++) {
            int w = walker;
            Due.accepted(x, "nobody LOST, at " + w, 0, () -> x.pointing(w));
        }
        x.sure(0, 4);
        Due.accepted(x, "where the POSTS are", 63, () -> x.pointing(0));
        Due.refused(x, "pointing(3)", -2, () -> x.pointing(3));
        PointAtWhoIsLost y = Due.of("post 0 0 0;post 0 0 0;post 0 0 0;post 0 0 0;post 0 0 0;post 0 0 0;post 0 0 0;post 0 0 0;walker 4 0");
        Due.accepted(y, "all eight", 255, () -> y.pointing(0));
        PointAtWhoIsLost none = Due.of("walker 4 0");
        Due.accepted(none, "no POSTS", 0, () -> none.pointing(0));
    }

    private static void tremblingPosts() {
        PointAtWhoIsLost none = new PointAtWhoIsLost();
        Due.accepted(none, "no POSTS", 0, () -> none.trembling());
        PointAtWhoIsLost x = Due.of(EIGHT);
        Due.accepted(x, "all eight", 255, () -> x.trembling());
        x.walker(22, 4);
        Due.accepted(x, "one", 0, () -> x.trembling());
        x.walker(22, 4);
        // 0, 2, 4 and 6 are POST, LAZY, ROTTEN and POST
        Due.accepted(x, "two", 1 | 4 | 16 | 64, () -> x.trembling());
        x.sure(0, 5);
        x.sure(1, 5);
        Due.accepted(x, "two who are SURE", 255, () -> x.trembling());
        PointAtWhoIsLost y = Due.of("post 2 1 0;post 2 2 0;post 4 1 0;post 4 2 0;walker 11 0");
        Due.accepted(y, "one, 2 STEPS away", 1 | 4, () -> y.trembling());
    }
}
