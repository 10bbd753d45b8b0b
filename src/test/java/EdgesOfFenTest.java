/** The edges that the document names of a fen (section 1, promises 1 and 9 to 16): on them, just within, just beyond. */
public final class EdgesOfFenTest {
    private static final int BAD = -2;

    public static void main(String[] args) {
        sideIs3To7AndOnlyGrows();
        whatStandsStaysWhenTheSideGrows();
        numbersThatAreCells();
        homeIsNeverBog();
        noBogWhereAWalkerIs();
        noHomeInBog();
        noWalkerInBog();
        postsHaveNumbersAndAre8AtMost();
        kindsAre0To5();
        aIs0To9();
        walkersHaveNumbersAndAre4AtMost();
        sureIs0To9AndLostIsBelow5();
        bytesAre0To255();
        theTapeHolds250Bytes();
        wipeTellsTheSizeAhead();
        Due.end();
    }

    private static PointAtWhoIsLost ofSide(int side) {
        PointAtWhoIsLost x = new PointAtWhoIsLost();
        Due.due("side(" + side + ")", x.side(side), 5);
        return x;
    }

    private static void sideIs3To7AndOnlyGrows() {
        for (int is = 5; is <= 7; is++) {
            for (int n = -1; n <= 11; n++) {
                PointAtWhoIsLost x = ofSide(is);
                int to = n;
                String call = "SIDE " + is + ": side(" + n + ")";
                if (n >= is && n <= 7) {
                    Due.accepted(x, call, is, () -> x.side(to));
                    Due.due("SIDE behind " + call, x.status(1), n);
                } else {
                    Due.refused(x, call, BAD, () -> x.side(to));
                    Due.due("SIDE behind " + call, x.status(1), is);
                }
            }
        }
        PointAtWhoIsLost x = new PointAtWhoIsLost();
        Due.due("SIDE at first", x.status(1), 5);
        Due.due("5 to 7 at once", x.side(7), 5);
        Due.refused(x, "back to 6", BAD, () -> x.side(6));
        Due.due("7 to 7", x.side(7), 7);
    }

    private static void whatStandsStaysWhenTheSideGrows() {
        PointAtWhoIsLost x = Due.of("home 44;bog 14;bog 41;post 5 9 40;walker 4 3");
        for (int side = 6; side <= 7; side++) {
            Due.due("side(" + side + ")", x.side(side), side - 1);
            Due.due("HOME", x.status(2), 44);
            Due.due("CELLS that are BOG", x.status(5), 2);
            Due.due("14", x.isBog(14), 1);
            Due.due("41", x.isBog(41), 1);
            Due.due("the new corner", x.isBog(11 * (side - 1)), 0);
            Due.due("the POST", x.postOf(0, 2), 40);
            Due.due("the WALKER", x.walkerOf(0, 0), 4);
            Due.due("CELLS in reach", x.reach(0, 70), side * side - 2);
        }
    }

    private interface AtCell {
        long answer(PointAtWhoIsLost x, int cell);
    }

    private static void numbersThatAreCells() {
        cells("bog(x, true)", (x, n) -> x.bog(n, true));
        cells("bog(x, false)", (x, n) -> x.bog(n, false));
        cells("home(x)", (x, n) -> x.home(n));
        cells("post(0, 0, x)", (x, n) -> x.post(0, 0, n));
        cells("walker(x, 0)", (x, n) -> x.walker(n, 0));
        cells("isBog(x)", (x, n) -> x.isBog(n));
        cells("way(x, 0)", (x, n) -> x.way(n, 0));
        cells("way(0, x)", (x, n) -> x.way(0, n));
        cells("arm(0, x)", (x, n) -> x.arm(0, n));
        cells("armed(x, 0)", (x, n) -> x.armed(n, 0));
        cells("alike(x)", (x, n) -> x.alike(n));
        cells("leads(0, x)", (x, n) -> x.leads(0, n));
        cells("reach(x, 0)", (x, n) -> x.reach(n, 0));
        cells("open(x)", (x, n) -> x.open(n));
        cells("path(x, 0)", (x, n) -> x.path(n, 0));
        cells("path(0, x)", (x, n) -> x.path(0, n));
    }

    /** CELLS are 10 times the ROW and the COLUMN, each 0 to SIDE less 1. */
    private static void cells(String call, AtCell by) {
        for (int side = 5; side <= 7; side++) {
            for (int n = -12; n <= 112; n++) {
                cell(call, side, n, by);
            }
            int[] wild = {Integer.MIN_VALUE, Integer.MIN_VALUE + 11, Integer.MAX_VALUE, 1 << 16, 256, 1000, -100};
            for (int n : wild) {
                cell(call, side, n, by);
            }
        }
    }

    private static void cell(String call, int side, int n, AtCell by) {
        PointAtWhoIsLost x = ofSide(side);
        x.home(21);
        x.post(0, 0, 0);
        x.walker(12, 0);
        boolean is = false;
        for (int row = 0; row < side; row++) {
            for (int column = 0; column < side; column++) {
                is |= n == 10 * row + column;
            }
        }
        Due.due("SIDE " + side + ": " + call + " of " + n + " is BAD", by.answer(x, n) == BAD ? 1 : 0, is ? 0 : 1);
        Due.due("SIDE " + side + ": " + call + " of " + n + " counts", x.status(12), is ? 0 : 1);
    }

    private static void homeIsNeverBog() {
        PointAtWhoIsLost x = new PointAtWhoIsLost();
        Due.due("HOME at first", x.status(2), 0);
        Due.refused(x, "bog at HOME", -5, () -> x.bog(0, true));
        Due.accepted(x, "bog beside HOME", 0, () -> x.bog(1, true));
        Due.due("HOME moves", x.home(44), 0);
        Due.refused(x, "bog at the new HOME", -5, () -> x.bog(44, true));
        Due.accepted(x, "bog where HOME was", 0, () -> x.bog(0, true));
        Due.accepted(x, "no BOG at HOME, as it is", 0, () -> x.bog(44, false));
        Due.due("CELLS that are BOG", x.status(5), 2);
        PointAtWhoIsLost y = new PointAtWhoIsLost();
        for (int cell = 1; cell <= 44; cell++) {
            if (cell % 10 < 5) {
                Due.due("bog " + cell, y.bog(cell, true), 0);
            }
        }
        Due.refused(y, "the last CELL", -5, () -> y.bog(0, true));
        Due.due("all CELLS but HOME are BOG", y.status(5), 24);
    }

    private static void noBogWhereAWalkerIs() {
        PointAtWhoIsLost x = Due.of("walker 11 0;walker 22 9;walker 33 5;walker 44 4");
        for (int cell = 11; cell <= 44; cell += 11) {
            int at = cell;
            Due.refused(x, "bog at the WALKER in " + at, -5, () -> x.bog(at, true));
            Due.accepted(x, "no BOG at the WALKER in " + at, 0, () -> x.bog(at, false));
        }
        Due.due("he goes", x.goes(3, 1), 34);
        Due.accepted(x, "bog where he was", 0, () -> x.bog(44, true));
        Due.refused(x, "bog where he is", -5, () -> x.bog(34, true));
        Due.due("CELLS that are BOG", x.status(5), 1);
    }

    private static void noHomeInBog() {
        PointAtWhoIsLost x = Due.of("bog 11");
        Due.refused(x, "HOME in BOG", -5, () -> x.home(11));
        Due.due("HOME", x.status(2), 0);
        Due.accepted(x, "HOME beside BOG", 0, () -> x.home(12));
        x.bog(11, false);
        Due.accepted(x, "HOME where BOG was", 12, () -> x.home(11));
    }

    private static void noWalkerInBog() {
        PointAtWhoIsLost x = Due.of("bog 11");
        Due.refused(x, "a WALKER in BOG", -5, () -> x.walker(11, 0));
        Due.due("WALKERS", x.status(3), 0);
        Due.accepted(x, "a WALKER beside BOG", 0, () -> x.walker(12, 0));
        x.bog(11, false);
        Due.accepted(x, "a WALKER where BOG was", 1, () -> x.walker(11, 0));
        Due.accepted(x, "a WALKER where one is", 2, () -> x.walker(11, 0));
    }

    private static void postsHaveNumbersAndAre8AtMost() {
        PointAtWhoIsLost x = new PointAtWhoIsLost();
        for (int i = 0; i < 8; i++) {
            int number = i;
            Due.refused(x, "no POST " + i + " yet", BAD, () -> x.postOf(number, 0));
            Due.accepted(x, "POST " + i, i, () -> x.post(number % 6, 9 - number, 11));
            Due.due("POSTS", x.status(0), i + 1);
            Due.due("its a", x.postOf(i, 1), 9 - i);
        }
        Due.refused(x, "the ninth", -6, () -> x.post(0, 0, 0));
        Due.refused(x, "the ninth again", -6, () -> x.post(1, 1, 1));
        Due.refused(x, "no POST 8", BAD, () -> x.postOf(8, 0));
        Due.due("POSTS", x.status(0), 8);
        Due.due("the last one's a", x.postOf(7, 1), 2);
        Due.due("the first one's a", x.postOf(0, 1), 9);
    }

    private static void kindsAre0To5() {
        for (int kind = -2; kind <= 8; kind++) {
            PointAtWhoIsLost x = new PointAtWhoIsLost();
            int k = kind;
            if (kind >= 0 && kind <= 5) {
                Due.accepted(x, "post of KIND " + k, 0, () -> x.post(k, 0, 0));
                Due.due("its KIND", x.postOf(0, 0), k);
            } else {
                Due.refused(x, "post of KIND " + k, BAD, () -> x.post(k, 0, 0));
                Due.due("POSTS", x.status(0), 0);
            }
        }
    }

    private static void aIs0To9() {
        for (int a = -2; a <= 12; a++) {
            PointAtWhoIsLost x = new PointAtWhoIsLost();
            int b = a;
            if (a >= 0 && a <= 9) {
                Due.accepted(x, "post with a " + b, 0, () -> x.post(2, b, 0));
                Due.due("its a", x.postOf(0, 1), b);
            } else {
                Due.refused(x, "post with a " + b, BAD, () -> x.post(2, b, 0));
                Due.due("POSTS", x.status(0), 0);
            }
        }
    }

    private static void walkersHaveNumbersAndAre4AtMost() {
        PointAtWhoIsLost x = new PointAtWhoIsLost();
        for (int i = 0; i < 4; i++) {
            int number = i;
            Due.refused(x, "no WALKER " + i + " yet", BAD, () -> x.walkerOf(number, 0));
            Due.refused(x, "no SURE of " + i + " yet", BAD, () -> x.sure(number, 0));
            Due.accepted(x, "WALKER " + i, i, () -> x.walker(11 * number, 9 - number));
            Due.due("WALKERS", x.status(3), i + 1);
            Due.due("his CELL", x.walkerOf(i, 0), 11 * i);
            Due.due("his SURE", x.walkerOf(i, 1), 9 - i);
        }
        Due.refused(x, "the fifth", -6, () -> x.walker(0, 0));
        Due.refused(x, "no WALKER 4", BAD, () -> x.walkerOf(4, 0));
        Due.due("WALKERS", x.status(3), 4);
        Due.due("the last one's CELL", x.walkerOf(3, 0), 33);
    }

    private static void sureIs0To9AndLostIsBelow5() {
        for (int v = -2; v <= 12; v++) {
            PointAtWhoIsLost x = new PointAtWhoIsLost();
            PointAtWhoIsLost y = Due.of("walker 11 7");
            int sure = v;
            if (v >= 0 && v <= 9) {
                Due.accepted(x, "walker(11, " + v + ")", 0, () -> x.walker(11, sure));
                Due.accepted(y, "sure(0, " + v + ")", 7, () -> y.sure(0, sure));
                Due.due("SURE", x.walkerOf(0, 1), v);
                Due.due("whether LOST, SURE " + v, x.walkerOf(0, 2), v < 5 ? 1 : 0);
                Due.due("SURE", y.walkerOf(0, 1), v);
                Due.due("whether LOST, SURE " + v, y.walkerOf(0, 2), v < 5 ? 1 : 0);
                Due.due("how many are LOST", y.status(4), v < 5 ? 1 : 0);
            } else {
                Due.refused(x, "walker(11, " + v + ")", BAD, () -> x.walker(11, sure));
                Due.refused(y, "sure(0, " + v + ")", BAD, () -> y.sure(0, sure));
                Due.due("WALKERS", x.status(3), 0);
                Due.due("SURE", y.walkerOf(0, 1), 7);
            }
        }
        PointAtWhoIsLost x = Due.of("walker 11 1;walker 22 2");
        Due.due("sure(1, 8)", x.sure(1, 8), 2);
        Due.due("the other one's SURE", x.walkerOf(0, 1), 1);
    }

    private static void bytesAre0To255() {
        for (int half = 0; half < 2; half++) {
            PointAtWhoIsLost x = new PointAtWhoIsLost();
            for (int i = 0; i < 128; i++) {
                Due.due("feed(" + (128 * half + i) + ")", x.feed(128 * half + i), i + 1);
            }
            Due.refused(x, "feed(-1)", BAD, () -> x.feed(-1));
            Due.refused(x, "feed(256)", BAD, () -> x.feed(256));
            Due.due("THE TAPE's size", x.status(6), 128);
        }
    }

    private static void theTapeHolds250Bytes() {
        PointAtWhoIsLost x = new PointAtWhoIsLost();
        Due.due("THE TAPE at first", x.status(6), 0);
        for (int i = 1; i <= 249; i++) {
            Due.due("feed " + i, x.feed(' '), i);
        }
        Due.accepted(x, "the 250th byte", 250, () -> x.feed('x'));
        Due.refused(x, "the 251st byte", -6, () -> x.feed('x'));
        Due.refused(x, "the 251st byte, a blank", -6, () -> x.feed(' '));
        Due.due("THE TAPE's size", x.status(6), 250);
        Due.due("the 250th byte is the FAULT", x.fen(), -20 - 249);
        Due.accepted(x, "THE TAPE has room again", 1, () -> x.feed('x'));
    }

    private static void wipeTellsTheSizeAhead() {
        PointAtWhoIsLost x = new PointAtWhoIsLost();
        Due.accepted(x, "wipe() of an empty TAPE", 0, () -> x.wipe());
        for (int i = 1; i <= 250; i++) {
            x.feed('x');
        }
        Due.accepted(x, "wipe() of a full TAPE", 250, () -> x.wipe());
        Due.due("THE TAPE's size", x.status(6), 0);
        Due.accepted(x, "wipe() again", 0, () -> x.wipe());
        Due.due("nothing is left of it", Due.fen(x, "bog 1"), 1);
        x.feed('x');
        Due.accepted(x, "wipe() of one byte", 1, () -> x.wipe());
        Due.due("nothing is on THE TAPE", x.fen(), -20);
    }
}
