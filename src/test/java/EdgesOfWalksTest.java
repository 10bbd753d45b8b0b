/** The edges of told WALKS (promises 44 to 46): on them, just within, just beyond. */
public final class EdgesOfWalksTest {
    private static final int NONE = -1;
    private static final int BAD = -2;
    private static final int STUCK = -5;

    public static void main(String[] args) {
        theFirstIsBesideWhereHeIs();
        eachIsBesideTheOneAhead();
        notOffTheFen();
        notInBog();
        noCellAtAll();
        the0thOf0();
        takes0To40();
        needsAsManyElements();
        everySort();
        nearsCountsStepsThatGetNearer();
        nearsByPathNotByWay();
        nearsWithoutAPath();
        doneIsInTruth();
        doneAtHome();
        doneOfAWrongOne();
        doneOfNone();
        Due.end();
    }

    private static void judge(String fen, int want, long... cells) {
        PointAtWhoIsLost x = Due.of(fen);
        Due.ints(x, 0, cells);
        String told = fen + ": " + java.util.Arrays.toString(cells);
        Due.accepted(x, "judge of " + told, want, () -> x.judge(0, cells.length, 0));
        if (want == NONE) {
            Due.due("nears is told of " + told, x.nears(0, cells.length, 0) >= 0 ? 1 : 0, 1);
        } else {
            Due.accepted(x, "judge up to what is WRONG of " + told, NONE, () -> x.judge(0, want, 0));
            Due.accepted(x, "judge with what is WRONG of " + told, want, () -> x.judge(0, want + 1, 0));
            Due.refused(x, "nears of " + told, STUCK, () -> x.nears(0, cells.length, 0));
            Due.refused(x, "done of " + told, STUCK, () -> x.done(0, cells.length, 0));
        }
    }

    private static void theFirstIsBesideWhereHeIs() {
        for (int cell = 0; cell <= 66; cell++) {
            boolean beside = cell == 12 || cell == 32 || cell == 21 || cell == 23;
            judge("side 7;walker 22 0", beside ? NONE : 0, cell);
        }
    }

    private static void eachIsBesideTheOneAhead() {
        judge("walker 22 0", NONE, 12, 2, 3, 13);
        judge("walker 22 0", 1, 12, 33);
        judge("walker 22 0", 1, 12, 12);
        judge("walker 22 0", NONE, 12, 22, 12, 22);
        judge("walker 22 0", 1, 12, 32);
        judge("walker 22 0", 1, 12, 21);
        judge("walker 22 0", 2, 12, 2, 0);
        judge("walker 22 0", 1, 23, 32, 33, 34);
        judge("walker 0 0;walker 22 0", 0, 12);
    }

    /** Over the right edge a number lies between two ROWS; the next ROW's first is not beside the last. */
    private static void notOffTheFen() {
        judge("walker 4 0", 0, 5);
        judge("walker 4 0", 0, 10);
        judge("walker 10 0", 0, 9);
        judge("walker 0 0", 0, -1);
        judge("walker 0 0", 0, -10);
        judge("walker 40 0", 0, 50);
        judge("walker 44 0", 0, 45);
        judge("walker 44 0", 0, 54);
        judge("side 6;walker 44 0", NONE, 45, 55, 54, 53);
        judge("side 6;walker 55 0", 0, 56);
        judge("side 6;walker 55 0", 0, 65);
        judge("side 7;walker 66 0", 0, 67);
        judge("side 7;walker 66 0", 0, 76);
        judge("side 7;walker 66 0", NONE, 65, 66, 56);
    }

    private static void notInBog() {
        judge("bog 12;walker 22 0", 0, 12);
        judge("bog 12;walker 22 0", 0, 12, 2);
        judge("bog 12;walker 22 0", 2, 21, 11, 12);
        judge("bog 12;walker 22 0", NONE, 21, 11, 1, 2, 3, 13, 23);
        judge("bog 12;dry 12;walker 22 0", NONE, 12);
    }

    private static void noCellAtAll() {
        long[] none = {99, 100, 1000, -5, Integer.MAX_VALUE, Integer.MIN_VALUE};
        for (long cell : none) {
            judge("walker 22 0", 0, cell);
            judge("walker 22 0", 1, 12, cell);
        }
        PointAtWhoIsLost x = Due.of("walker 22 0");
        x.row(0, 3, 2);
        x.set(0, 0, 12);
        long[] longs = {(1L << 32) + 2, (1L << 33) + 13, Long.MAX_VALUE, Long.MIN_VALUE, Long.MIN_VALUE + 2, -(1L << 32) + 2};
        for (long cell : longs) {
            x.set(0, 1, cell);
            Due.accepted(x, "judge of " + cell, 1, () -> x.judge(0, 2, 0));
            Due.refused(x, "nears of " + cell, STUCK, () -> x.nears(0, 2, 0));
            Due.refused(x, "done of " + cell, STUCK, () -> x.done(0, 2, 0));
        }
    }

    private static void the0thOf0() {
        PointAtWhoIsLost x = Due.of("walker 22 3");
        x.row(0, 2, 0);
        Due.ints(x, 1, 99);
        for (int s = 0; s < 2; s++) {
            int shelf = s;
            Due.accepted(x, "judge of none", NONE, () -> x.judge(shelf, 0, 0));
            Due.accepted(x, "nears of none", 0, () -> x.nears(shelf, 0, 0));
            Due.accepted(x, "done of none", 22, () -> x.done(shelf, 0, 0));
        }
        Due.due("SURE", x.walkerOf(0, 1), 3);
    }

    private static void takes0To40() {
        PointAtWhoIsLost x = Due.of("walker 22 3");
        x.row(0, 1, 40);
        for (int i = 0; i < 40; i++) {
            x.set(0, i, i % 2 == 0 ? 12 : 22);
        }
        int[] right = {0, 1, 39, 40};
        int[] nears = {0, 1, 20, 20};
        for (int i = 0; i < 4; i++) {
            int n = right[i];
            int near = nears[i];
            Due.accepted(x, "judge of " + n, NONE, () -> x.judge(0, n, 0));
            Due.accepted(x, "nears of " + n, near, () -> x.nears(0, n, 0));
        }
        int[] wrong = {-1, 41, 42, Integer.MAX_VALUE, Integer.MIN_VALUE};
        for (int n : wrong) {
            Due.refused(x, "judge of " + n, BAD, () -> x.judge(0, n, 0));
            Due.refused(x, "nears of " + n, BAD, () -> x.nears(0, n, 0));
            Due.refused(x, "done of " + n, BAD, () -> x.done(0, n, 0));
        }
        x.set(0, 39, 24);
        Due.accepted(x, "judge, the last is WRONG", 39, () -> x.judge(0, 40, 0));
        Due.accepted(x, "judge but the last", NONE, () -> x.judge(0, 39, 0));
        Due.refused(x, "done, the last is WRONG", STUCK, () -> x.done(0, 40, 0));
        Due.accepted(x, "done but the last", 12, () -> x.done(0, 39, 0));
    }

    private static void needsAsManyElements() {
        for (int elements = 0; elements <= 4; elements++) {
            for (int n = 0; n <= 5; n++) {
                PointAtWhoIsLost x = Due.of("walker 11 3");
                x.row(0, 0, elements);
                for (int i = 0; i < elements; i++) {
                    x.set(0, i, i % 2 == 0 ? 12 : 11);
                }
                int many = n;
                String call = " of " + n + " of " + elements;
                if (n <= elements) {
                    Due.accepted(x, "judge" + call, NONE, () -> x.judge(0, many, 0));
                    Due.accepted(x, "nears" + call, n / 2, () -> x.nears(0, many, 0));
                    Due.accepted(x, "done" + call, n % 2 == 0 ? 11 : 12, () -> x.done(0, many, 0));
                } else {
                    Due.refused(x, "judge" + call, BAD, () -> x.judge(0, many, 0));
                    Due.refused(x, "nears" + call, BAD, () -> x.nears(0, many, 0));
                    Due.refused(x, "done" + call, BAD, () -> x.done(0, many, 0));
                    Due.due("he is where he was", x.walkerOf(0, 0), 11);
                }
            }
        }
    }

    private static void everySort() {
        for (int sort = 0; sort < 4; sort++) {
            PointAtWhoIsLost x = Due.of("side 7;walker 56 0");
            int o = sort;
            x.row(0, sort, 2);
            x.set(0, 0, 66);
            x.set(0, 1, 65);
            Due.accepted(x, "judge of SORT " + sort, NONE, () -> x.judge(0, 2, 0));
            Due.accepted(x, "done of SORT " + sort, 65, () -> x.done(0, 2, 0));
            x.set(0, 0, (1L << (o == 0 ? 8 : o == 1 ? 16 : 32)) + 64);
            Due.accepted(x, "judge of wrapped SORT " + sort, sort == 3 ? 0 : NONE, () -> x.judge(0, 1, 0));
        }
        PointAtWhoIsLost x = Due.of("home 44;walker 11 0");
        x.row(0, 4, 2);
        x.set(0, 0, 12);
        Due.accepted(x, "booleans: to 1", NONE, () -> x.judge(0, 1, 0));
        Due.accepted(x, "booleans: to 1 and 0", NONE, () -> x.judge(0, 2, 0));
        Due.accepted(x, "booleans: done", 0, () -> x.done(0, 2, 0));
    }

    private static void nears(String fen, int want, long... cells) {
        PointAtWhoIsLost x = Due.of(fen);
        Due.ints(x, 0, cells);
        Due.accepted(x, fen + ": nears of " + java.util.Arrays.toString(cells), want, () -> x.nears(0, cells.length, 0));
        Due.due("he is where he was", x.judge(0, cells.length, 0), NONE);
    }

    private static void nearsCountsStepsThatGetNearer() {
        nears("walker 22 0", 1, 12);
        nears("walker 22 0", 1, 21);
        nears("walker 22 0", 0, 32);
        nears("walker 22 0", 0, 23);
        nears("walker 22 0", 4, 12, 2, 1, 0);
        nears("walker 22 0", 4, 12, 2, 1, 0, 10);
        nears("walker 22 0", 5, 12, 2, 1, 0, 10, 0);
        nears("walker 22 0", 1, 32, 22);
        nears("walker 22 0", 2, 23, 13, 12);
        nears("walker 0 0", 0, 1, 2, 3, 4);
        nears("walker 0 0;home 4", 4, 1, 2, 3, 4);
        nears("walker 0 0;walker 44 0;home 4", 3, 1, 2, 3, 13);
    }

    private static void nearsByPathNotByWay() {
        // a wall down COLUMN 1: HOME is far round it
        String wall = "bog 1;bog 11;bog 21;bog 31;";
        nears(wall + "walker 2 0", 0, 3);
        nears(wall + "walker 2 0", 1, 12);
        nears(wall + "walker 2 0", 10, 12, 22, 32, 42, 41, 40, 30, 20, 10, 0);
        nears(wall + "walker 12 0", 0, 2);
        nears(wall + "walker 13 0", 1, 12);
    }

    private static void nearsWithoutAPath() {
        nears("bog 1;bog 10;walker 11 0", 0, 12, 2, 12, 11);
        nears("home 44;bog 1;bog 11;bog 20;walker 0 0", 0, 10, 0, 10);
    }

    private static void doneIsInTruth() {
        PointAtWhoIsLost x = Due.of("walker 22 3;walker 33 7");
        Due.ints(x, 0, 32, 42, 43);
        Due.accepted(x, "done of three", 43, () -> x.done(0, 3, 0));
        Due.due("his CELL", x.walkerOf(0, 0), 43);
        Due.due("his SURE", x.walkerOf(0, 1), 3);
        Due.due("the other's CELL", x.walkerOf(1, 0), 33);
        Due.due("the other's SURE", x.walkerOf(1, 1), 7);
        Due.refused(x, "from where he is now", STUCK, () -> x.done(0, 3, 0));
        Due.accepted(x, "the other, one step of it", 32, () -> x.done(0, 1, 1));
        Due.due("the other's SURE", x.walkerOf(1, 1), 7);
        Due.ints(x, 0, 42);
        Due.accepted(x, "from where he is now", 42, () -> x.done(0, 1, 0));
        Due.accepted(x, "both there", 42, () -> x.done(0, 1, 1));
        Due.due("how many are LOST", x.status(4), 1);
        Due.due("nothing was drawn", x.status(7), 1);
    }

    private static void doneAtHome() {
        for (int sure = 0; sure <= 9; sure++) {
            PointAtWhoIsLost x = Due.of("walker 11 " + sure);
            Due.ints(x, 0, 1, 0, 10);
            Due.due("past HOME", x.done(0, 3, 0), 10);
            Due.due("SURE as he was", x.walkerOf(0, 1), sure);
            Due.ints(x, 0, 20);
            Due.due("away from HOME", x.done(0, 1, 0), 20);
            Due.due("SURE as he was", x.walkerOf(0, 1), sure);
            Due.ints(x, 0, 10, 0);
            Due.due("to HOME", x.done(0, 2, 0), 0);
            Due.due("SURE at HOME", x.walkerOf(0, 1), 9);
            Due.ints(x, 0, 1);
            Due.due("from HOME", x.done(0, 1, 0), 1);
            Due.due("SURE still", x.walkerOf(0, 1), 9);
        }
    }

    private static void doneOfAWrongOne() {
        PointAtWhoIsLost x = Due.of("bog 12;walker 22 3");
        Due.ints(x, 0, 21, 11, 12);
        Due.refused(x, "the end is BOG", STUCK, () -> x.done(0, 3, 0));
        Due.due("he is where he was", x.walkerOf(0, 0), 22);
        Due.accepted(x, "the rest of it", 11, () -> x.done(0, 2, 0));
        Due.ints(x, 0, 12, 2, 1, 0);
        Due.refused(x, "the end is HOME, the first is BOG", STUCK, () -> x.done(0, 4, 0));
        Due.due("he is where he was", x.walkerOf(0, 0), 11);
        Due.due("as SURE as he was", x.walkerOf(0, 1), 3);
    }

    private static void doneOfNone() {
        PointAtWhoIsLost x = Due.of("walker 0 3;walker 11 3");
        x.row(0, 0, 0);
        Due.accepted(x, "none, away from HOME", 11, () -> x.done(0, 0, 1));
        Due.due("as SURE as he was", x.walkerOf(1, 1), 3);
        Due.accepted(x, "none, at HOME", 0, () -> x.done(0, 0, 0));
        Due.due("the WALK ends at HOME", x.walkerOf(0, 1), 9);
    }
}
