/** Promises 36 to 43: ways round the bog, and to who is lost. */
public final class PathsTest {
    /** BOG: a wall down COLUMN 2 with a gap at the bottom (42), and 14 alone. */
    private static final String WALL = "bog 2;bog 12;bog 22;bog 32;bog 14";

    public static void main(String[] args) {
        leads();
        reach();
        open();
        parts();
        worst();
        path();
        found();
        meet();
        Due.end();
    }

    private static void leads() {
        PointAtWhoIsLost x = Due.of(WALL + ";walker 21 0;walker 33 9;walker 24 9");
        Due.accepted(x, "leads down round the wall", 2, () -> x.leads(0, 23));
        Due.accepted(x, "leads up before left", 1, () -> x.leads(0, 0));
        Due.accepted(x, "leads left", 3, () -> x.leads(0, 20));
        Due.accepted(x, "leads up before right", 1, () -> x.leads(1, 24));
        Due.accepted(x, "leads right", 4, () -> x.leads(1, 34));
        Due.accepted(x, "leads down before left", 2, () -> x.leads(1, 42));
        Due.accepted(x, "leads past BOG", 3, () -> x.leads(2, 4));
        Due.accepted(x, "leads where he is", 0, () -> x.leads(0, 21));
        Due.accepted(x, "leads to BOG", -1, () -> x.leads(0, 22));
        x.bog(42, true);
        Due.accepted(x, "leads, no PATH", -1, () -> x.leads(0, 23));
        Due.refused(x, "leads(3, 0)", -2, () -> x.leads(3, 0));
        Due.refused(x, "leads(-1, 0)", -2, () -> x.leads(-1, 0));
        Due.refused(x, "leads(0, 5)", -2, () -> x.leads(0, 5));
        Due.refused(x, "leads(0, -1)", -2, () -> x.leads(0, -1));
    }

    private static void reach() {
        PointAtWhoIsLost x = Due.of(WALL);
        int[] want = {1, 3, 5, 7, 9, 10, 11, 12, 14, 16, 18, 19};
        for (int n = 0; n < want.length; n++) {
            int steps = n;
            Due.accepted(x, "reach(0, " + n + ")", want[n], () -> x.reach(0, steps));
        }
        Due.accepted(x, "reach(0, 70)", 20, () -> x.reach(0, 70));
        Due.accepted(x, "reach(2, 0) from BOG", 1, () -> x.reach(2, 0));
        Due.accepted(x, "reach(2, 1) from BOG", 3, () -> x.reach(2, 1));
        Due.accepted(x, "reach(22, 70) from BOG", 21, () -> x.reach(22, 70));
        Due.refused(x, "reach(5, 0)", -2, () -> x.reach(5, 0));
        Due.refused(x, "reach(-1, 0)", -2, () -> x.reach(-1, 0));
        Due.refused(x, "reach(0, -1)", -2, () -> x.reach(0, -1));
        Due.refused(x, "reach(0, 71)", -2, () -> x.reach(0, 71));
        PointAtWhoIsLost y = Due.of("side 7");
        Due.due("reach(0, 12)", y.reach(0, 12), 49);
        Due.due("reach(0, 11)", y.reach(0, 11), 48);
    }

    private static void open() {
        PointAtWhoIsLost x = Due.of(WALL);
        Due.accepted(x, "open(0)", 2, () -> x.open(0));
        Due.accepted(x, "open(1)", 2, () -> x.open(1));
        Due.accepted(x, "open(13)", 2, () -> x.open(13));
        Due.accepted(x, "open(4)", 1, () -> x.open(4));
        Due.accepted(x, "open(24)", 2, () -> x.open(24));
        Due.accepted(x, "open(22) of BOG", 2, () -> x.open(22));
        Due.accepted(x, "open(30)", 3, () -> x.open(30));
        Due.accepted(x, "open(33)", 3, () -> x.open(33));
        Due.accepted(x, "open(44)", 2, () -> x.open(44));
        x.bog(32, false);
        Due.accepted(x, "open(33)", 4, () -> x.open(33));
        Due.refused(x, "open(5)", -2, () -> x.open(5));
        Due.refused(x, "open(-1)", -2, () -> x.open(-1));
        Due.refused(x, "open(50)", -2, () -> x.open(50));
    }

    private static void parts() {
        PointAtWhoIsLost x = Due.of(WALL);
        Due.accepted(x, "parts(), a gap", 1, () -> x.parts());
        x.bog(42, true);
        Due.accepted(x, "parts(), no gap", 2, () -> x.parts());
        x.bog(3, true);
        Due.accepted(x, "parts(), 4 alone", 3, () -> x.parts());
        x.bog(12, false);
        Due.accepted(x, "parts(), another gap", 2, () -> x.parts());
        PointAtWhoIsLost y = Due.of("side 7");
        for (int cell = 0; cell < 67; cell++) {
            if (cell % 10 < 7 && (cell / 10 + cell % 10) % 2 == 1) {
                y.bog(cell, true);
            }
        }
        Due.due("parts(), each alone", y.parts(), 25);
    }

    private static void worst() {
        PointAtWhoIsLost x = new PointAtWhoIsLost();
        Due.refused(x, "worst(2), no WALKERS", -2, () -> x.worst(2));
        Due.refused(x, "worst(-1)", -2, () -> x.worst(-1));
        Due.refused(x, "worst(0)", -5, () -> x.worst(0));
        Due.refused(x, "worst(1)", -5, () -> x.worst(1));
        Due.fen(x, "walker 11 7;walker 2 6;walker 33 6;walker 24 9");
        Due.accepted(x, "worst(0), of several the first", 1, () -> x.worst(0));
        Due.accepted(x, "worst(1), of several the first", 2, () -> x.worst(1));
        x.sure(3, 0);
        Due.accepted(x, "worst(0)", 3, () -> x.worst(0));
        Due.fen(x, "bog 14;bog 23;bog 34");
        Due.accepted(x, "worst(1), one shut in", 3, () -> x.worst(1));
        Due.fen(x, "bog 1;bog 10");
        Due.accepted(x, "worst(1), all shut out", 0, () -> x.worst(1));
        PointAtWhoIsLost y = Due.of("walker 0 9");
        Due.accepted(y, "worst(1), one at HOME", 0, () -> y.worst(1));
    }

    private static void path() {
        PointAtWhoIsLost x = Due.of(WALL);
        Due.accepted(x, "path(0, 44)", 8, () -> x.path(0, 44));
        Due.accepted(x, "path(1, 3)", 10, () -> x.path(1, 3));
        Due.accepted(x, "path(3, 1)", 10, () -> x.path(3, 1));
        Due.accepted(x, "path(0, 0)", 0, () -> x.path(0, 0));
        Due.accepted(x, "path from BOG", 1, () -> x.path(2, 3));
        Due.accepted(x, "path from BOG round", 2, () -> x.path(2, 11));
        Due.accepted(x, "path to BOG", -1, () -> x.path(3, 2));
        Due.accepted(x, "path from BOG to BOG", -1, () -> x.path(2, 12));
        Due.accepted(x, "path from BOG to itself", 0, () -> x.path(2, 2));
        x.bog(42, true);
        Due.accepted(x, "path across the wall", -1, () -> x.path(1, 3));
        Due.accepted(x, "path from the wall", 3, () -> x.path(42, 34));
        Due.refused(x, "path(5, 0)", -2, () -> x.path(5, 0));
        Due.refused(x, "path(0, 5)", -2, () -> x.path(0, 5));
        Due.refused(x, "path(-1, 0)", -2, () -> x.path(-1, 0));
        Due.refused(x, "path(0, 67)", -2, () -> x.path(0, 67));
    }

    private static void found() {
        PointAtWhoIsLost x = Due.of(WALL);
        Due.accepted(x, "found(), nobody", -1, () -> x.found());
        x.walker(3, 9);
        Due.accepted(x, "found(), nobody LOST", -1, () -> x.found());
        x.walker(1, 4);
        Due.accepted(x, "found(), the only one", 1, () -> x.found());
        x.walker(44, 0);
        Due.accepted(x, "found(), the nearer LOST one", 2, () -> x.found());
        x.walker(21, 5);
        Due.accepted(x, "found(), the nearer one", 31, () -> x.found());
        x.sure(0, 0);
        x.sure(1, 9);
        // of those not LOST, 1 is 10 from 0 and 7 from 2, 3 is 8 from 0 and 5 from 2
        Due.accepted(x, "found(), the later of both", 32, () -> x.found());
        x.bog(42, true);
        Due.accepted(x, "found(), no PATH", -1, () -> x.found());
        PointAtWhoIsLost all = Due.of("walker 0 0;walker 1 4");
        Due.accepted(all, "found(), all LOST", -1, () -> all.found());
        PointAtWhoIsLost same = Due.of("walker 33 0;walker 22 9;walker 11 0;walker 22 9");
        Due.accepted(same, "found(), of several the first", 10, () -> same.found());
        PointAtWhoIsLost late = Due.of("walker 44 9;walker 22 0;walker 22 0;walker 22 9");
        Due.accepted(late, "found(), in one CELL", 31, () -> late.found());
    }

    private static void meet() {
        PointAtWhoIsLost x = new PointAtWhoIsLost();
        Due.accepted(x, "meet(), no WALKERS", 0, () -> x.meet());
        Due.fen(x, "home 1;bog 0");
        Due.accepted(x, "meet(), no WALKERS, 0 is BOG", 0, () -> x.meet());
        x.walker(23, 0);
        Due.accepted(x, "meet(), one", 23, () -> x.meet());
        x.walker(21, 0);
        Due.accepted(x, "meet(), two", 22, () -> x.meet());
        x.bog(22, true);
        Due.accepted(x, "meet(), of several the first", 12, () -> x.meet());
        x.walker(44, 0);
        Due.accepted(x, "meet(), three", 32, () -> x.meet());
        x.walker(24, 0);
        Due.accepted(x, "meet(), four", 32, () -> x.meet());
        Due.fen(x, "bog 34;bog 43");
        Due.accepted(x, "meet(), one shut in", -1, () -> x.meet());
        PointAtWhoIsLost y = Due.of("walker 11 0;walker 0 9");
        Due.due("meet(), two beside", y.meet(), 1);
        PointAtWhoIsLost z = Due.of("walker 44 0;walker 0 9");
        Due.due("meet(), far away", z.meet(), 4);
        z.goes(0, 1);
        z.goes(0, 1);
        z.goes(0, 1);
        z.goes(0, 1);
        z.goes(0, 3);
        z.goes(0, 3);
        z.goes(0, 3);
        Due.due("meet(), nearer than they were", z.meet(), 0);
    }
}
