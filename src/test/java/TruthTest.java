/** Promises 47 to 52: steps in truth, DAYS by DRAWS, images and status. */
public final class TruthTest {
    public static void main(String[] args) {
        goes();
        days();
        draws();
        daysOfMany();
        seed();
        imageAndBack();
        backAndShelves();
        status();
        refusalsByStatus();
        Due.end();
    }

    private static void goes() {
        PointAtWhoIsLost x = Due.of("bog 12;walker 11 2;walker 11 6");
        Due.accepted(x, "goes(0, 0)", 11, () -> x.goes(0, 0));
        Due.due("SURE, stays", x.walkerOf(0, 1), 2);
        Due.refused(x, "goes into BOG", -5, () -> x.goes(0, 4));
        Due.due("CELL, STUCK", x.walkerOf(0, 0), 11);
        Due.due("SURE, STUCK", x.walkerOf(0, 1), 2);
        Due.accepted(x, "goes(0, 3)", 10, () -> x.goes(0, 3));
        Due.due("SURE, left", x.walkerOf(0, 1), 1);
        Due.refused(x, "goes off the fen, left", -5, () -> x.goes(0, 3));
        Due.accepted(x, "goes(0, 2)", 20, () -> x.goes(0, 2));
        Due.due("SURE, down", x.walkerOf(0, 1), 0);
        Due.accepted(x, "goes(0, 4)", 21, () -> x.goes(0, 4));
        Due.due("SURE, 0 at least", x.walkerOf(0, 1), 0);
        Due.accepted(x, "goes(0, 1)", 11, () -> x.goes(0, 1));
        Due.due("goes(1, 1)", x.goes(1, 1), 1);
        Due.due("SURE, not LOST", x.walkerOf(1, 1), 6);
        Due.refused(x, "goes off the fen, up", -5, () -> x.goes(1, 1));
        Due.due("goes(1, 3) HOME", x.goes(1, 3), 0);
        Due.due("SURE at HOME", x.walkerOf(1, 1), 9);
        x.sure(1, 3);
        Due.due("goes(1, 0) at HOME", x.goes(1, 0), 0);
        Due.due("SURE at HOME, stays", x.walkerOf(1, 1), 9);
        Due.due("goes(1, 4)", x.goes(1, 4), 1);
        Due.due("goes(1, 4)", x.goes(1, 4), 2);
        Due.due("goes(1, 4)", x.goes(1, 4), 3);
        Due.due("goes(1, 4)", x.goes(1, 4), 4);
        Due.refused(x, "goes off the fen, right", -5, () -> x.goes(1, 4));
        Due.refused(x, "goes(2, 0)", -2, () -> x.goes(2, 0));
        Due.refused(x, "goes(-1, 0)", -2, () -> x.goes(-1, 0));
        Due.refused(x, "goes(0, -1)", -2, () -> x.goes(0, -1));
        Due.refused(x, "goes(0, 5)", -2, () -> x.goes(0, 5));
        PointAtWhoIsLost y = Due.of("walker 44 5");
        Due.refused(y, "goes off the fen, down", -5, () -> y.goes(0, 2));
        Due.due("SURE 5 is not LOST", y.goes(0, 1), 34);
        Due.due("SURE 5 stays", y.walkerOf(0, 1), 5);
        y.sure(0, 4);
        y.goes(0, 1);
        Due.due("SURE 4 becomes 3", y.walkerOf(0, 1), 3);
    }

    private static void days() {
        PointAtWhoIsLost x = new PointAtWhoIsLost();
        Due.accepted(x, "days(1), no WALKERS", 0, () -> x.days(1));
        Due.due("nothing was drawn", x.status(7), 1);
        Due.fen(x, "bog 1;walker 22 5;walker 13 9;walker 0 6;walker 2 8");
        Due.accepted(x, "days(1)", 4, () -> x.days(1));
        Due.due("nothing was drawn", x.status(7), 1);
        Due.due("up first", x.walkerOf(0, 0), 12);
        Due.due("left, up leads off", x.walkerOf(1, 0), 12);
        Due.due("stays at HOME", x.walkerOf(2, 0), 0);
        Due.due("SURE at HOME", x.walkerOf(2, 1), 9);
        Due.due("down, round BOG", x.walkerOf(3, 0), 12);
        Due.due("as SURE as he was", x.walkerOf(0, 1), 5);
        Due.accepted(x, "days(2)", 4, () -> x.days(2));
        Due.due("nearly there", x.walkerOf(0, 0), 10);
        Due.due("as SURE as he was", x.walkerOf(3, 1), 8);
        Due.accepted(x, "days(60)", 4, () -> x.days(60));
        for (int walker = 0; walker < 4; walker++) {
            Due.due("at HOME " + walker, x.walkerOf(walker, 0), 0);
            Due.due("SURE " + walker, x.walkerOf(walker, 1), 9);
        }
        PointAtWhoIsLost y = Due.of("bog 1;bog 10;walker 22 5");
        Due.accepted(y, "days(60), no PATH", 1, () -> y.days(60));
        Due.due("he stays", y.walkerOf(0, 0), 22);
        Due.due("as SURE as he was", y.walkerOf(0, 1), 5);
        Due.refused(y, "days(0)", -2, () -> y.days(0));
        Due.refused(y, "days(61)", -2, () -> y.days(61));
        Due.refused(y, "days(-1)", -2, () -> y.days(-1));
    }

    private static int seed = 1;

    private static int draw() {
        seed = (int) ((seed * 1103515245L + 12345L) & 0xFFFFFFFFL);
        return (int) ((seed & 0xFFFFFFFFL) / 65536L % 5);
    }

    /** One who is LOST in the middle of a wide fen, day by day by the DRAWS that are due. */
    private static void draws() {
        PointAtWhoIsLost x = Due.of("side 7;home 66;bog 34;walker 33 4");
        int[] on = {0, -10, 10, -1, 1};
        int cell = 33;
        int sure = 4;
        seed = 1;
        for (int day = 0; day < 40; day++) {
            int command = draw();
            int next = cell + on[command];
            boolean can = next >= 0 && next / 10 < 7 && next % 10 < 7 && next != 34;
            cell = can ? next : cell;
            sure = cell == 66 ? 9 : can && command != 0 && sure > 0 && sure < 5 ? sure - 1 : sure;
            if (sure > 4) {
                break;
            }
            Due.due("day " + day, x.days(1), 0);
            Due.due("CELL on day " + day, x.walkerOf(0, 0), cell);
            Due.due("SURE on day " + day, x.walkerOf(0, 1), sure);
            Due.due("SEED on day " + day, x.status(7), seed);
        }
        PointAtWhoIsLost shut = Due.of("bog 1;bog 10;home 44;walker 0 3");
        shut.days(60);
        Due.due("shut in", shut.walkerOf(0, 0), 0);
        Due.due("he never went", shut.walkerOf(0, 1), 3);
        PointAtWhoIsLost home = Due.of("bog 1;bog 10;walker 0 3");
        Due.due("shut in at HOME", home.days(1), 1);
        Due.due("SURE at HOME", home.walkerOf(0, 1), 9);
        int behind = home.status(7);
        home.days(5);
        Due.due("no more is drawn", home.status(7), behind);
    }

    private static void daysOfMany() {
        PointAtWhoIsLost x = Due.of("home 22;walker 0 0;walker 44 9;walker 40 0;walker 4 5");
        seed = 1;
        int first = draw();
        int second = draw();
        int[] from0 = {0, 0, 10, 0, 1};
        int[] from40 = {40, 30, 40, 40, 41};
        Due.due("days(1)", x.days(1), 2);
        Due.due("the first by the first DRAW", x.walkerOf(0, 0), from0[first]);
        Due.due("the third by the second DRAW", x.walkerOf(2, 0), from40[second]);
        Due.due("the second, up first", x.walkerOf(1, 0), 34);
        Due.due("the fourth, down first", x.walkerOf(3, 0), 14);
        Due.due("SEED", x.status(7), seed);
    }

    private static void seed() {
        PointAtWhoIsLost x = new PointAtWhoIsLost();
        Due.accepted(x, "seed(-2)", 1, () -> x.seed(-2));
        Due.accepted(x, "seed(least)", -2, () -> x.seed(Integer.MIN_VALUE));
        Due.accepted(x, "seed(0)", Integer.MIN_VALUE, () -> x.seed(0));
        Due.due("status(7)", x.status(7), 0);
        x.walker(22, 0);
        x.days(1);
        Due.accepted(x, "seed(5)", 12345, () -> x.seed(5));
    }

    private static void imageAndBack() {
        PointAtWhoIsLost x = Due.of("bog 11;home 1;post 1 2 3;walker 44 3;walker 33 6");
        Due.refused(x, "back() to nothing", -5, () -> x.back());
        Due.ints(x, 0, 7);
        x.seed(99);
        Due.accepted(x, "image()", 1, () -> x.image());
        for (int turn = 0; turn < 2; turn++) {
            x.set(0, 0, 8);
            x.feed(65);
            Due.due("side(6)", x.side(6), 5);
            x.bog(11, false);
            x.bog(55, true);
            x.home(2);
            x.post(0, 0, 55);
            x.walker(54, 9);
            x.sure(0, 9);
            x.goes(1, 1);
            x.seed(3);
            Due.accepted(x, "back()", 1, () -> x.back());
            Due.due("SIDE", x.status(1), 5);
            Due.due("BOG", x.isBog(11), 1);
            Due.due("CELLS that are BOG", x.status(5), 1);
            Due.due("HOME", x.status(2), 1);
            Due.due("POSTS", x.status(0), 1);
            Due.due("a", x.postOf(0, 1), 2);
            Due.due("WALKERS", x.status(3), 2);
            Due.due("SURE", x.walkerOf(0, 1), 3);
            Due.due("CELL", x.walkerOf(1, 0), 33);
            Due.due("SEED", x.status(7), 99);
            Due.due("THE TAPE", x.status(6), turn + 1);
            Due.due("a ROW", x.element(0, 0), 8);
            Due.due("REFUSALS", x.status(15), 1);
        }
        x.side(6);
        Due.due("no BOG is left over", x.isBog(55), 0);
        x.image();
        x.side(7);
        x.back();
        Due.due("the later image", x.status(1), 6);
    }

    private static void backAndShelves() {
        PointAtWhoIsLost x = Due.of("post 0 1 0;post 0 2 0");
        x.image();
        Due.fen(x, "post 0 3 0;post 0 4 0");
        for (int s = 0; s < 4; s++) {
            x.show(s, s);
        }
        x.row(4, 4, 1);
        x.row(5, 0, 1);
        Due.due("status(8)", x.status(8), 6);
        x.back();
        int[] want = {10, 11, -1, -1, 4, 0, -1, -1};
        for (int s = 0; s < 8; s++) {
            Due.due("holds(" + s + ")", x.holds(s), want[s]);
        }
        Due.due("status(8)", x.status(8), 4);
        Due.due("says(1, 0)", x.says(1, 0), 2);
        PointAtWhoIsLost y = new PointAtWhoIsLost();
        y.image();
        y.post(0, 0, 0);
        y.show(7, 0);
        y.show(0, 0);
        y.row(6, 4, 0);
        y.back();
        Due.due("no POSTS: holds(7)", y.holds(7), -1);
        Due.due("no POSTS: holds(0)", y.holds(0), -1);
        Due.due("no POSTS: holds(6)", y.holds(6), 4);
    }

    private static void status() {
        PointAtWhoIsLost x = Due.of("side 6;bog 1;bog 12;bog 22;dry 1;home 3;post 0 0 0;walker 0 0;walker 4 4;walker 5 5");
        x.seed(-7);
        x.feed(1);
        x.row(3, 3, 3);
        x.show(2, 0);
        int[] want = {1, 6, 3, 3, 2, 2, 1, -7, 2};
        for (int what = 0; what < want.length; what++) {
            int w = what;
            Due.accepted(x, "status(" + w + ")", want[w], () -> x.status(w));
        }
        x.bog(0, true);
        Due.due("0 is not counted, where a WALKER is", x.status(5), 2);
        PointAtWhoIsLost y = Due.of("side 7;home 1;bog 0;bog 66");
        Due.due("the first CELL and the last", y.status(5), 2);
        int[] others = {-1, 9, 10, 11, 17, 18, Integer.MAX_VALUE, Integer.MIN_VALUE};
        for (int what : others) {
            Due.accepted(x, "status(" + what + ")", -1, () -> x.status(what));
        }
    }

    private static void refusalsByStatus() {
        PointAtWhoIsLost x = Due.of("post 0 0 0");
        x.show(0, 0);
        for (int i = 0; i < 2; i++) {
            x.side(1);
        }
        for (int i = 0; i < 3; i++) {
            x.set(0, 0, 0);
        }
        for (int i = 0; i < 4; i++) {
            x.set(1, 0, 0);
        }
        for (int i = 0; i < 5; i++) {
            x.bog(0, true);
        }
        for (int i = 0; i < 8; i++) {
            x.post(0, 0, 0);
        }
        int[] want = {2, 3, 4, 5, 1};
        for (int i = 0; i < 5; i++) {
            Due.due("status(" + (12 + i) + ")", x.status(12 + i), want[i]);
        }
        x.image();
        x.side(1);
        x.back();
        Due.due("REFUSALS are not kept by an image", x.status(12), 3);
    }
}
