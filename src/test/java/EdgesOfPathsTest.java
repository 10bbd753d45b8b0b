/** The edges of PATHS (promises 36 to 43): on them, just within, just beyond. */
public final class EdgesOfPathsTest {
    private static final int NONE = -1;

    public static void main(String[] args) {
        leadsOfSeveralTheLeast();
        leadsWhereHeIs();
        leadsToBog();
        leadsWithoutAPath();
        reachAlongASnake();
        reachItselfToo();
        pathFromBog();
        pathToItself();
        openAtTheEdges();
        openAmongBog();
        partsOfOneAndOfMany();
        worstOfSeveralTheFirst();
        worstHasNoPath();
        foundNobody();
        foundOfSeveralTheFirst();
        foundWithoutAPath();
        meetNobody();
        meetOfSeveralTheFirst();
        meetWithoutAPath();
        meetInNoBog();
        Due.end();
    }

    /** SIDE 7, and one way through it from 0 to 60 by 31 CELLS. */
    private static PointAtWhoIsLost snake() {
        PointAtWhoIsLost x = new PointAtWhoIsLost();
        x.side(7);
        for (int column = 0; column < 7; column++) {
            if (column != 6) {
                x.bog(10 + column, true);
                x.bog(50 + column, true);
            }
            if (column != 0) {
                x.bog(30 + column, true);
            }
        }
        Due.due("CELLS that are BOG", x.status(5), 18);
        return x;
    }

    private static void leads(String fen, int to, int want) {
        PointAtWhoIsLost x = Due.of(fen);
        Due.accepted(x, fen + ": leads(0, " + to + ")", want, () -> x.leads(0, to));
    }

    private static void leadsOfSeveralTheLeast() {
        leads("walker 22 0", 12, 1);
        leads("walker 22 0", 32, 2);
        leads("walker 22 0", 21, 3);
        leads("walker 22 0", 23, 4);
        leads("walker 22 0", 11, 1);
        leads("walker 22 0", 13, 1);
        leads("walker 22 0", 31, 2);
        leads("walker 22 0", 33, 2);
        leads("bog 21;bog 22;bog 23;walker 20 0", 24, 1);
        leads("bog 12;bog 22;bog 32;walker 2 0", 42, 3);
        leads("bog 12;bog 22;bog 32;bog 1;walker 2 0", 42, 4);
        leads("bog 21;bog 22;bog 23;bog 10;walker 20 0", 24, 2);
        leads("bog 12;walker 22 0", 11, 3);
        leads("bog 12;walker 22 0", 2, 3);
        leads("bog 12;bog 21;walker 22 0", 2, 4);
        leads("bog 12;bog 21;bog 23;walker 22 0", 2, 2);
    }

    private static void leadsWhereHeIs() {
        leads("walker 22 0", 22, 0);
        leads("bog 12;bog 21;bog 23;bog 32;walker 22 0", 22, 0);
        leads("walker 0 9", 0, 0);
        leads("side 7;walker 66 9", 66, 0);
    }

    private static void leadsToBog() {
        leads("bog 12;walker 22 0", 12, NONE);
        leads("bog 2;walker 22 0", 2, NONE);
        leads("home 22;bog 0;walker 44 0", 0, NONE);
        leads("home 22;bog 44;walker 0 0", 44, NONE);
    }

    private static void leadsWithoutAPath() {
        leads("bog 1;bog 10;walker 22 0", 0, NONE);
        leads("bog 1;bog 10;walker 0 0", 22, NONE);
        leads("bog 1;bog 10;walker 0 0;walker 22 0", 44, NONE);
        leads("bog 1;walker 22 0", 0, 1);
        PointAtWhoIsLost x = Due.of("bog 1;bog 10;walker 0 0;walker 22 0;walker 21 0;walker 12 0");
        int[] want = {NONE, 1, 1, 3};
        for (int walker = 0; walker < 4; walker++) {
            int w = walker;
            Due.accepted(x, "leads(" + w + ", 11)", want[w], () -> x.leads(w, 11));
        }
        Due.refused(x, "leads(4, 11)", -2, () -> x.leads(4, 11));
    }

    private static void reachAlongASnake() {
        PointAtWhoIsLost x = snake();
        for (int n = 0; n <= 70; n++) {
            Due.due("reach(0, " + n + ")", x.reach(0, n), Math.min(n, 30) + 1);
            Due.due("reach(60, " + n + ")", x.reach(60, n), Math.min(n, 30) + 1);
        }
        Due.accepted(x, "the whole way", 30, () -> x.path(0, 60));
        Due.accepted(x, "the whole way back", 30, () -> x.path(60, 0));
        Due.refused(x, "reach(0, 71)", -2, () -> x.reach(0, 71));
        Due.refused(x, "reach(0, -1)", -2, () -> x.reach(0, -1));
        // 6, 16 and 26 are the 7th to the 9th CELL
        Due.accepted(x, "to the first turn", 6, () -> x.path(0, 6));
        Due.accepted(x, "through it", 8, () -> x.path(0, 26));
        Due.accepted(x, "across BOG is none", 8, () -> x.path(6, 20));
    }

    private static void reachItselfToo() {
        PointAtWhoIsLost x = Due.of("bog 11;bog 22;bog 12;bog 21;bog 1;bog 10;bog 44");
        int[] ns = {0, 1, 70};
        int[] shut = {1, 1, 1};
        int[] bog = {1, 1, 1};
        int[] corner = {1, 3, 18};
        for (int i = 0; i < 3; i++) {
            int n = ns[i];
            Due.accepted(x, "shut in: reach(0, " + n + ")", shut[i], () -> x.reach(0, n));
            Due.accepted(x, "BOG among BOG: reach(11, " + n + ")", bog[i], () -> x.reach(11, n));
            Due.accepted(x, "BOG by dry CELLS: reach(44, " + n + ")", corner[i], () -> x.reach(44, n));
        }
        // 18 dry CELLS, of which 0 is shut in: the other 17, and the BOG itself
        Due.accepted(x, "from a dry CELL", 17, () -> x.reach(43, 70));
    }

    private static void pathFromBog() {
        PointAtWhoIsLost x = Due.of("bog 22;bog 23;bog 12;bog 44");
        Due.accepted(x, "BOG to what is beside", 1, () -> x.path(22, 32));
        Due.accepted(x, "what is beside to BOG", NONE, () -> x.path(32, 22));
        Due.accepted(x, "BOG to BOG beside", NONE, () -> x.path(22, 23));
        Due.accepted(x, "BOG to BOG far away", NONE, () -> x.path(22, 44));
        Due.accepted(x, "BOG round BOG", 6, () -> x.path(22, 13));
        Due.accepted(x, "BOG to a corner", 4, () -> x.path(22, 0));
        Due.accepted(x, "a corner to BOG", NONE, () -> x.path(0, 22));
    }

    private static void pathToItself() {
        PointAtWhoIsLost x = Due.of("side 7;bog 1;bog 10;bog 55");
        Due.accepted(x, "shut in", 0, () -> x.path(0, 0));
        Due.accepted(x, "the last CELL", 0, () -> x.path(66, 66));
        Due.accepted(x, "shut in to beyond", NONE, () -> x.path(0, 11));
        Due.accepted(x, "beyond to shut in", NONE, () -> x.path(11, 0));
        Due.accepted(x, "beside", 1, () -> x.path(11, 12));
        Due.accepted(x, "across a corner", 2, () -> x.path(11, 22));
        Due.accepted(x, "round BOG", 2, () -> x.path(54, 65));
        Due.accepted(x, "far away", 10, () -> x.path(11, 66));
    }

    private static void openAtTheEdges() {
        for (int side = 5; side <= 7; side++) {
            PointAtWhoIsLost x = new PointAtWhoIsLost();
            x.side(side);
            for (int row = 0; row < side; row++) {
                for (int column = 0; column < side; column++) {
                    int edges = (row == 0 || row == side - 1 ? 1 : 0) + (column == 0 || column == side - 1 ? 1 : 0);
                    Due.due("SIDE " + side + ": open(" + row + column + ")", x.open(10 * row + column), 4 - edges);
                }
            }
        }
    }

    private static void openAmongBog() {
        int[] beside = {12, 32, 21, 23};
        PointAtWhoIsLost x = new PointAtWhoIsLost();
        for (int i = 0; i < 4; i++) {
            int left = 4 - i;
            Due.accepted(x, "open(22), " + i + " BOG", left, () -> x.open(22));
            x.bog(beside[i], true);
        }
        Due.accepted(x, "open(22), all BOG", 0, () -> x.open(22));
        x.bog(22, true);
        x.bog(12, false);
        Due.accepted(x, "open(22) of BOG", 1, () -> x.open(22));
        Due.accepted(x, "open(12) beside BOG", 3, () -> x.open(12));
    }

    private static void partsOfOneAndOfMany() {
        PointAtWhoIsLost x = new PointAtWhoIsLost();
        int bogs = 0;
        for (int cell = 44; cell > 0; cell--) {
            if (cell % 10 < 5) {
                x.bog(cell, true);
                bogs++;
            }
        }
        Due.due("CELLS that are BOG", x.status(5), bogs);
        Due.accepted(x, "HOME alone", 1, () -> x.parts());
        x.bog(11, false);
        Due.accepted(x, "across a corner", 2, () -> x.parts());
        x.bog(44, false);
        Due.accepted(x, "and the last CELL", 3, () -> x.parts());
        x.bog(1, false);
        Due.accepted(x, "a way from 0 to 11", 2, () -> x.parts());
        x.bog(4, false);
        x.bog(10, false);
        Due.accepted(x, "4 isn't beside 10", 3, () -> x.parts());
        PointAtWhoIsLost y = new PointAtWhoIsLost();
        for (int cell = 1; cell <= 44; cell++) {
            if (cell % 10 < 5 && (cell / 10 + cell % 10) % 2 == 1) {
                y.bog(cell, true);
            }
        }
        Due.accepted(y, "each alone", 13, () -> y.parts());
        PointAtWhoIsLost z = snake();
        Due.accepted(z, "a snake", 1, () -> z.parts());
        z.bog(46, true);
        Due.accepted(z, "a snake in two", 2, () -> z.parts());
        PointAtWhoIsLost none = Due.of("side 7");
        Due.accepted(none, "no BOG", 1, () -> none.parts());
    }

    private static void worstOfSeveralTheFirst() {
        worst("walker 11 5", 0, 0);
        worst("walker 11 5;walker 11 5", 0, 0);
        worst("walker 11 5;walker 12 4", 1, 1);
        worst("walker 12 4;walker 11 5", 0, 0);
        worst("walker 11 0;walker 2 0;walker 20 0;walker 1 0", 0, 0);
        worst("walker 1 9;walker 44 9;walker 44 9;walker 0 9", 0, 1);
        worst("walker 1 9;walker 2 8;walker 3 7;walker 4 6", 3, 3);
        worst("walker 0 0;walker 0 9", 0, 0);
        worst("walker 0 9;walker 0 0", 1, 0);
    }

    private static void worst(String fen, int sure, int out) {
        PointAtWhoIsLost x = Due.of(fen);
        Due.accepted(x, fen + ": worst(0)", sure, () -> x.worst(0));
        Due.accepted(x, fen + ": worst(1)", out, () -> x.worst(1));
    }

    private static void worstHasNoPath() {
        String shut = "bog 34;bog 43;";
        worst(shut + "walker 0 0;walker 44 1", 0, 1);
        worst(shut + "walker 44 1;walker 0 0", 1, 0);
        worst(shut + "walker 33 2;walker 44 2;walker 44 2", 0, 1);
        worst(shut + "home 44;walker 44 2;walker 33 2;walker 0 2", 0, 1);
        worst("bog 1;bog 10;walker 44 2;walker 11 2", 0, 0);
        PointAtWhoIsLost snake = snake();
        snake.walker(60, 9);
        snake.walker(61, 9);
        Due.accepted(snake, "the longest of all OUTs", 0, () -> snake.worst(1));
        Due.accepted(snake, "that OUT", 30, () -> snake.walkerOf(0, 3));
        snake.bog(62, true);
        Due.accepted(snake, "both without a PATH", 0, () -> snake.worst(1));
        snake.goes(0, 4);
        snake.walker(0, 9);
        Due.accepted(snake, "still both", 0, () -> snake.worst(1));
        PointAtWhoIsLost late = snake();
        late.walker(60, 9);
        late.walker(46, 9);
        late.bog(56, true);
        late.bog(45, true);
        late.walker(0, 9);
        Due.accepted(late, "none is longer than any", 0, () -> late.worst(1));
        PointAtWhoIsLost none = new PointAtWhoIsLost();
        Due.refused(none, "no WALKERS: worst(0)", -5, () -> none.worst(0));
        Due.refused(none, "no WALKERS: worst(1)", -5, () -> none.worst(1));
        Due.refused(none, "no WALKERS: worst(2)", -2, () -> none.worst(2));
        Due.refused(none, "no WALKERS: worst(-1)", -2, () -> none.worst(-1));
    }

    private static void found(String fen, int want) {
        PointAtWhoIsLost x = Due.of(fen);
        Due.accepted(x, fen + ": found()", want, () -> x.found());
    }

    private static void foundNobody() {
        found("side 5", NONE);
        found("walker 11 0", NONE);
        found("walker 11 9", NONE);
        found("walker 11 4;walker 11 4;walker 11 0;walker 11 3", NONE);
        found("walker 11 5;walker 11 5;walker 11 9;walker 11 6", NONE);
        found("walker 11 5;walker 11 4", 1);
        found("walker 11 4;walker 11 5", 10);
    }

    private static void foundOfSeveralTheFirst() {
        found("walker 22 0;walker 22 0;walker 22 9;walker 22 9", 20);
        found("walker 22 9;walker 22 9;walker 22 0;walker 22 0", 2);
        found("walker 22 9;walker 24 0;walker 20 0;walker 42 0", 1);
        found("walker 22 9;walker 24 0;walker 21 0;walker 42 0", 2);
        found("walker 24 9;walker 20 9;walker 22 0;walker 21 0", 13);
        found("walker 23 9;walker 20 9;walker 22 0;walker 21 0", 2);
        found("walker 0 9;walker 44 0;walker 43 9;walker 1 0", 3);
        found("walker 33 0;walker 0 9;walker 44 9;walker 0 0", 13);
        found("walker 33 0;walker 1 9;walker 34 9;walker 0 0", 13);
        found("walker 33 0;walker 2 9;walker 34 9;walker 0 0", 20);
        found("walker 0 0;walker 44 9", 10);
        found("walker 0 9;walker 0 0;walker 44 9;walker 44 0", 1);
    }

    private static void foundWithoutAPath() {
        String shut = "bog 34;bog 43;";
        found(shut + "walker 44 0;walker 0 9", NONE);
        found(shut + "walker 44 9;walker 0 0", NONE);
        found(shut + "walker 44 0;walker 0 9;walker 1 0", 12);
        found(shut + "walker 44 9;walker 33 0;walker 0 9", 21);
        found(shut + "walker 44 9;walker 33 0;walker 0 9;walker 44 4", 3);
        // beside as ways go, but far round the wall
        found("bog 2;bog 12;bog 22;bog 32;walker 1 9;walker 3 0;walker 40 0", 2);
    }

    private static void meet(String fen, int want) {
        PointAtWhoIsLost x = Due.of(fen);
        Due.accepted(x, fen + ": meet()", want, () -> x.meet());
    }

    private static void meetNobody() {
        meet("side 5", 0);
        meet("side 7;home 66", 0);
    }

    private static void meetOfSeveralTheFirst() {
        meet("walker 0 0", 0);
        meet("side 7;walker 66 9", 66);
        meet("walker 22 0;walker 22 9;walker 22 4", 22);
        meet("walker 22 0;walker 23 0", 22);
        meet("walker 23 0;walker 22 0", 22);
        meet("walker 21 0;walker 23 0", 22);
        meet("walker 11 0;walker 22 0", 12);
        meet("walker 0 0;walker 4 0;walker 40 0;walker 44 0", 22);
        meet("walker 0 0;walker 4 0;walker 40 0", 0);
        meet("walker 11 0;walker 14 0;walker 41 0", 11);
        meet("walker 44 0;walker 40 0;walker 4 0", 22);
        meet("side 7;walker 0 0;walker 66 0", 6);
    }

    private static void meetWithoutAPath() {
        meet("bog 34;bog 43;walker 44 0", 44);
        meet("bog 34;bog 43;walker 44 0;walker 44 9", 44);
        meet("bog 34;bog 43;walker 44 0;walker 0 9", NONE);
        meet("bog 34;bog 43;walker 0 0;walker 1 0;walker 2 0;walker 44 0", NONE);
        meet("bog 1;bog 10;walker 0 0;walker 2 0", NONE);
    }

    private static void meetInNoBog() {
        meet("bog 22;walker 21 0;walker 23 0", 12);
        meet("bog 22;bog 12;walker 21 0;walker 23 0", 32);
        meet("bog 22;bog 12;bog 32;walker 21 0;walker 23 0", 2);
        meet("bog 22;bog 12;bog 32;bog 2;walker 21 0;walker 23 0", 42);
        meet("bog 22;bog 12;bog 32;bog 2;bog 42;walker 21 0;walker 23 0", NONE);
    }
}
