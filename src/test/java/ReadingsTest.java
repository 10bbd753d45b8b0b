/** Promises 18 to 22 and 25, 29, 31 to 33: what POSTS and WALKERS are, and ARMS. */
public final class ReadingsTest {
    public static void main(String[] args) {
        postOf();
        walkerOf();
        isBog();
        way();
        armByKinds();
        armsAsThingsAre();
        armRefusals();
        kinds();
        armed();
        right();
        pointing();
        trembling();
        Due.end();
    }

    private static void postOf() {
        PointAtWhoIsLost x = Due.of("post 2 3 44;post 0 7 12");
        int[] want = {2, 3, 44, -1};
        for (int what = 0; what < 4; what++) {
            int w = what;
            Due.accepted(x, "postOf(0, " + w + ")", want[w], () -> x.postOf(0, w));
        }
        Due.due("postOf(1, 1)", x.postOf(1, 1), 7);
        Due.refused(x, "postOf(2, 0)", -2, () -> x.postOf(2, 0));
        Due.refused(x, "postOf(-1, 0)", -2, () -> x.postOf(-1, 0));
        Due.refused(x, "postOf(0, 4)", -2, () -> x.postOf(0, 4));
        Due.refused(x, "postOf(0, -1)", -2, () -> x.postOf(0, -1));
    }

    private static void walkerOf() {
        PointAtWhoIsLost x = Due.of("bog 34;bog 43;walker 44 4;walker 12 5");
        int[] want = {44, 4, 1, -1};
        int[] other = {12, 5, 0, 3};
        for (int what = 0; what < 4; what++) {
            int w = what;
            Due.accepted(x, "walkerOf(0, " + w + ")", want[w], () -> x.walkerOf(0, w));
            Due.accepted(x, "walkerOf(1, " + w + ")", other[w], () -> x.walkerOf(1, w));
        }
        Due.due("home(12)", x.home(12), 0);
        Due.due("OUT at HOME", x.walkerOf(1, 3), 0);
        Due.refused(x, "walkerOf(2, 0)", -2, () -> x.walkerOf(2, 0));
        Due.refused(x, "walkerOf(-1, 0)", -2, () -> x.walkerOf(-1, 0));
        Due.refused(x, "walkerOf(0, 4)", -2, () -> x.walkerOf(0, 4));
        Due.refused(x, "walkerOf(0, -1)", -2, () -> x.walkerOf(0, -1));
    }

    private static void isBog() {
        PointAtWhoIsLost x = Due.of("bog 44");
        Due.accepted(x, "isBog(44)", 1, () -> x.isBog(44));
        Due.accepted(x, "isBog(43)", 0, () -> x.isBog(43));
        Due.refused(x, "isBog(45)", -2, () -> x.isBog(45));
        Due.refused(x, "isBog(54)", -2, () -> x.isBog(54));
        Due.refused(x, "isBog(-1)", -2, () -> x.isBog(-1));
        Due.refused(x, "isBog(-10)", -2, () -> x.isBog(-10));
        Due.refused(x, "isBog(most)", -2, () -> x.isBog(Integer.MAX_VALUE));
        Due.refused(x, "isBog(least)", -2, () -> x.isBog(Integer.MIN_VALUE));
    }

    private static void way() {
        PointAtWhoIsLost x = Due.of("side 7");
        Due.due("way up", x.way(33, 3), 0);
        Due.due("way up and right", x.way(33, 24), 1);
        Due.due("way right", x.way(33, 36), 2);
        Due.due("way down and right", x.way(33, 44), 3);
        Due.due("way down", x.way(33, 63), 4);
        Due.due("way down and left", x.way(33, 42), 5);
        Due.due("way left", x.way(33, 30), 6);
        Due.due("way up and left", x.way(33, 22), 7);
        Due.due("way to itself", x.way(33, 33), 8);
        Due.due("way 1 down, 2 right", x.way(0, 12), 3);
        Due.due("way 1 down, 3 right", x.way(0, 13), 2);
        Due.due("way 2 down, 1 right", x.way(0, 21), 3);
        Due.due("way 3 down, 1 right", x.way(0, 31), 4);
        Due.due("way 6 up, 3 left", x.way(66, 3), 7);
        Due.due("way 6 up, 2 left", x.way(66, 4), 0);
        Due.due("way 3 up, 6 right", x.way(60, 36), 1);
        Due.due("way 2 up, 6 right", x.way(60, 46), 2);
        Due.due("way 2 up, 5 left", x.way(65, 40), 6);
        Due.due("way 5 down, 3 left", x.way(6, 53), 5);
        x.bog(44, true);
        Due.accepted(x, "way to BOG", 3, () -> x.way(33, 44));
        Due.refused(x, "way(7, 0)", -2, () -> x.way(7, 0));
        Due.refused(x, "way(0, 7)", -2, () -> x.way(0, 7));
        Due.refused(x, "way(-1, 0)", -2, () -> x.way(-1, 0));
        Due.refused(x, "way(0, 70)", -2, () -> x.way(0, 70));
    }

    private static void armByKinds() {
        PointAtWhoIsLost x = Due.of("post 0 1 22;post 1 1 22;post 2 2 22;post 3 1 22;post 4 2 22;post 5 1 22;bog 2");
        int[][] want = {
            // at 2 (BOG), 23, 22, 44, 4
            {0, 2, 8, 3, 1}, {0, 2, 8, 3, 1}, {0, 2, 8, -1, -1}, {1, 3, 8, 4, 2}, {4, 6, 8, -1, -1}, {0, 2, 8, 3, 1}};
        int[] cells = {2, 23, 22, 44, 4};
        for (int post = 0; post < 6; post++) {
            for (int i = 0; i < cells.length; i++) {
                int p = post;
                int cell = cells[i];
                Due.accepted(x, "arm(" + p + ", " + cell + ")", want[p][i], () -> x.arm(p, cell));
            }
        }
        Due.due("WILD turns 7 to 0", x.arm(3, 11), 0);
        Due.due("ROTTEN turns 7 to 3", x.arm(4, 11), 3);
        Due.due("ROTTEN turns 5 to 1", x.arm(4, 31), 1);
        x.walker(0, 0);
        x.walker(44, 0);
        Due.due("arm by a single one, whoever is there", x.arm(0, 23), 2);
        PointAtWhoIsLost y = Due.of("post 2 0 22;post 4 9 0");
        Due.due("LAZY, a 0, where it is", y.arm(0, 22), 8);
        Due.due("LAZY, a 0, beside", y.arm(0, 21), -1);
        Due.due("ROTTEN, a 9, 8 away", y.arm(1, 44), 7);
    }

    private static void armsAsThingsAre() {
        PointAtWhoIsLost x = Due.of("side 7;post 0 0 33;post 1 0 33;post 2 4 33;post 3 0 33;post 4 4 33;post 5 0 33");
        arms(x, "nobody", -1, -1, -1, -1, -1, -1);
        x.walker(0, 5);
        arms(x, "nobody LOST", -1, -1, -1, -1, -1, -1);
        x.walker(23, 4);
        arms(x, "one LOST", 0, 0, 0, 1, 4, 0);
        x.walker(43, 0);
        arms(x, "two as near, across", -1, 0, -1, 1, -1, 8);
        x.walker(34, 0);
        arms(x, "three as near", -1, 0, -1, 1, -1, 2);
        x.sure(1, 9);
        arms(x, "the first of two", -1, 4, -1, 5, -1, 3);
        x.sure(2, 9);
        x.sure(3, 9);
        x.sure(0, 4);
        arms(x, "one too far for LAZY", 7, 7, -1, 0, -1, 7);
        x.sure(3, 0);
        arms(x, "the second is nearer", -1, 2, -1, 3, -1, 7);
        PointAtWhoIsLost left = Due.of("post 5 0 10;post 5 0 20;post 5 0 44;walker 12 0;walker 31 0");
        Due.due("TORN, 2 down, 3 right", left.postOf(0, 3), 3);
        Due.due("TORN, 0 down, 3 right", left.postOf(1, 3), 2);
        Due.due("TORN, 4 up, 5 left", left.postOf(2, 3), 7);
    }

    private static void arms(PointAtWhoIsLost x, String when, int... want) {
        int bits = 0;
        for (int post = 0; post < want.length; post++) {
            Due.due(when + ": ARM of " + post, x.postOf(post, 3), want[post]);
            bits |= want[post] == -1 ? 1 << post : 0;
            x.show(0, post);
            int kind = x.postOf(post, 0);
            if (kind != 0) {
                Due.due(when + ": says(0, " + kind + ")", x.says(0, kind), want[post]);
            }
        }
        Due.due(when + ": trembling()", x.trembling(), bits);
    }

    private static void armRefusals() {
        PointAtWhoIsLost x = Due.of("post 0 0 0");
        Due.refused(x, "arm(1, 0)", -2, () -> x.arm(1, 0));
        Due.refused(x, "arm(-1, 0)", -2, () -> x.arm(-1, 0));
        Due.refused(x, "arm(0, 5)", -2, () -> x.arm(0, 5));
        Due.refused(x, "arm(0, -1)", -2, () -> x.arm(0, -1));
    }

    private static void kinds() {
        PointAtWhoIsLost x = Due.of("post 3 4 22;walker 23 0");
        Due.accepted(x, "kinds(0, 2)", 1 | 2 | 4 | 32, () -> x.kinds(0, 2));
        Due.due("kinds(0, 3)", x.kinds(0, 3), 8);
        Due.due("kinds(0, 6)", x.kinds(0, 6), 16);
        Due.due("kinds(0, 0)", x.kinds(0, 0), 0);
        Due.due("kinds(0, -1)", x.kinds(0, -1), 0);
        x.walker(21, 0);
        Due.due("two: kinds(0, 8)", x.kinds(0, 8), 32);
        Due.due("two: kinds(0, -1)", x.kinds(0, -1), 1 | 4 | 16);
        x.sure(0, 9);
        x.sure(1, 9);
        Due.due("nobody: kinds(0, -1)", x.kinds(0, -1), 63);
        Due.due("postOf(0, 0)", x.postOf(0, 0), 3);
        Due.refused(x, "kinds(1, 0)", -2, () -> x.kinds(1, 0));
        Due.refused(x, "kinds(-1, 0)", -2, () -> x.kinds(-1, 0));
        Due.refused(x, "kinds(0, -2)", -2, () -> x.kinds(0, -2));
        Due.refused(x, "kinds(0, 9)", -2, () -> x.kinds(0, 9));
    }

    private static void armed() {
        PointAtWhoIsLost x = Due.of("post 0 0 22;post 3 0 22;post 2 0 22;post 4 9 22;post 5 0 44;bog 24;walker 0 0;walker 1 0");
        Due.accepted(x, "armed(24, 2) in BOG", 1, () -> x.armed(24, 2));
        Due.due("armed(24, 3)", x.armed(24, 3), 2);
        Due.due("armed(24, -1)", x.armed(24, -1), 4);
        Due.due("armed(24, 6)", x.armed(24, 6), 8);
        Due.due("armed(24, 0)", x.armed(24, 0), 16);
        Due.due("armed(22, 8)", x.armed(22, 8), 15);
        Due.due("armed(24, 8)", x.armed(24, 8), 0);
        Due.refused(x, "armed(5, 0)", -2, () -> x.armed(5, 0));
        Due.refused(x, "armed(-1, 0)", -2, () -> x.armed(-1, 0));
        Due.refused(x, "armed(0, 9)", -2, () -> x.armed(0, 9));
        Due.refused(x, "armed(0, -2)", -2, () -> x.armed(0, -2));
    }

    private static void right() {
        PointAtWhoIsLost x = Due.of("post 0 0 22;post 1 0 12;post 2 1 22;post 3 0 22;post 4 9 22;post 5 0 44;post 3 0 12;bog 12");
        int[] want = {24, 24, 4, 1, 1, 24, 0};
        for (int post = 0; post < want.length; post++) {
            int p = post;
            Due.accepted(x, "right(" + p + ")", want[p], () -> x.right(p));
        }
        Due.refused(x, "right(7)", -2, () -> x.right(7));
        Due.refused(x, "right(-1)", -2, () -> x.right(-1));
    }

    private static void pointing() {
        PointAtWhoIsLost x = Due.of("post 0 0 22;post 1 0 0;post 3 0 22;post 5 0 44;walker 24 0;walker 4 9;walker 44 9");
        Due.accepted(x, "pointing(0)", 1 | 2 | 8, () -> x.pointing(0));
        Due.accepted(x, "pointing(1), not LOST", 8, () -> x.pointing(1));
        Due.accepted(x, "pointing(2), not LOST", 2 | 4, () -> x.pointing(2));
        x.sure(0, 9);
        Due.accepted(x, "pointing(0), nobody LOST", 0, () -> x.pointing(0));
        Due.refused(x, "pointing(3)", -2, () -> x.pointing(3));
        Due.refused(x, "pointing(-1)", -2, () -> x.pointing(-1));
    }

    private static void trembling() {
        PointAtWhoIsLost x = Due.of("post 0 0 22;post 1 0 0;post 2 9 22;post 5 0 44");
        Due.accepted(x, "trembling(), nobody", 15, () -> x.trembling());
        x.walker(0, 0);
        Due.accepted(x, "trembling(), one", 0, () -> x.trembling());
        x.walker(0, 0);
        Due.accepted(x, "trembling(), two", 5, () -> x.trembling());
        x.sure(0, 5);
        x.sure(1, 5);
        Due.accepted(x, "trembling(), nobody LOST", 15, () -> x.trembling());
    }
}
