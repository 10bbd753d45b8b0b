/** Promises 44 to 46: told WALKS. */
public final class WalksTest {
    public static void main(String[] args) {
        judge();
        nears();
        done();
        refusals();
        Due.end();
    }

    private static void judge() {
        walk(-1, 21, 22, 23);
        walk(-1);
        walk(0, 11);
        walk(0, 12);
        walk(0, 22);
        walk(0, 31);
        walk(1, 21, 21);
        walk(2, 21, 22, 12);
        walk(2, 10, 0, -1);
        walk(2, 10, 0, -10);
        walk(4, 21, 22, 23, 24, 25);
        walk(3, 21, 31, 41, 51);
        walk(1, 21, 99, 22);
        walk(-1, 21, 11, 21);
        PointAtWhoIsLost x = Due.of("bog 12;walker 11 4;walker 44 9");
        x.row(1, 3, 1);
        x.set(1, 0, (1L << 32) + 21);
        Due.accepted(x, "a long that is no CELL", 0, () -> x.judge(1, 1, 0));
        x.row(2, 4, 2);
        x.set(2, 1, 1);
        x.walker(10, 0);
        Due.accepted(x, "booleans, 10 to 0 and 1", -1, () -> x.judge(2, 2, 2));
        x.row(3, 0, 40);
        for (int i = 0; i < 40; i++) {
            x.set(3, i, i % 2 == 0 ? 34 : 44);
        }
        Due.accepted(x, "40 steps", -1, () -> x.judge(3, 40, 1));
        Due.accepted(x, "40 steps of another", 0, () -> x.judge(3, 40, 0));
        Due.accepted(x, "none of 40 steps", -1, () -> x.judge(3, 0, 0));
    }

    private static void walk(int want, long... cells) {
        PointAtWhoIsLost x = Due.of("bog 12;walker 11 4;walker 44 9");
        Due.ints(x, 0, cells);
        Due.accepted(x, "judge of " + java.util.Arrays.toString(cells), want, () -> x.judge(0, cells.length, 0));
        for (int n = 0; n < cells.length; n++) {
            int some = n;
            int due = want >= n ? -1 : want;
            Due.due("judge of the first " + n, x.judge(0, some, 0), due);
        }
        if (want != -1) {
            Due.refused(x, "nears of a WRONG one", -5, () -> x.nears(0, cells.length, 0));
            Due.refused(x, "done of a WRONG one", -5, () -> x.done(0, cells.length, 0));
            Due.due("he is where he was", x.walkerOf(0, 0), 11);
            Due.due("he is as SURE as he was", x.walkerOf(0, 1), 4);
        }
    }

    private static void nears() {
        PointAtWhoIsLost x = Due.of("bog 11;walker 22 4");
        Due.ints(x, 0, 12, 13, 3, 2, 1, 0, 1, 0);
        int[] want = {0, 1, 1, 2, 3, 4, 5, 5, 6};
        for (int n = 0; n < want.length; n++) {
            int some = n;
            Due.accepted(x, "nears of " + n, want[n], () -> x.nears(0, some, 0));
        }
        Due.due("he is where he was", x.walkerOf(0, 0), 22);
        PointAtWhoIsLost y = Due.of("bog 1;bog 10;walker 22 4");
        Due.ints(y, 0, 12, 11);
        Due.accepted(y, "nears without a PATH", 0, () -> y.nears(0, 2, 0));
        PointAtWhoIsLost z = Due.of("bog 2;bog 12;bog 22;bog 32;walker 23 0");
        Due.ints(z, 0, 33, 43, 42, 41, 42);
        Due.accepted(z, "nears round the wall, by PATH", 4, () -> z.nears(0, 5, 0));
    }

    private static void done() {
        PointAtWhoIsLost x = Due.of("walker 11 4;walker 44 6");
        Due.ints(x, 0, 10, 0, 1);
        Due.accepted(x, "done past HOME", 1, () -> x.done(0, 3, 0));
        Due.due("he is there", x.walkerOf(0, 0), 1);
        Due.due("he is as SURE as he was", x.walkerOf(0, 1), 4);
        Due.refused(x, "done again", -5, () -> x.done(0, 3, 0));
        Due.accepted(x, "done, none", 1, () -> x.done(0, 0, 0));
        Due.ints(x, 0, 0);
        Due.accepted(x, "done to HOME", 0, () -> x.done(0, 1, 0));
        Due.due("he is SURE", x.walkerOf(0, 1), 9);
        x.sure(0, 2);
        Due.accepted(x, "done, none, at HOME", 0, () -> x.done(0, 0, 0));
        Due.due("he is SURE", x.walkerOf(0, 1), 9);
        Due.due("the other is where he was", x.walkerOf(1, 0), 44);
        Due.due("the other is as SURE as he was", x.walkerOf(1, 1), 6);
        x.bog(43, true);
        Due.ints(x, 0, 34, 33);
        Due.accepted(x, "done of the other", 33, () -> x.done(0, 2, 1));
        Due.due("the other is as SURE as he was", x.walkerOf(1, 1), 6);
    }

    private static void refusals() {
        PointAtWhoIsLost x = Due.of("post 0 0 0;walker 0 6");
        x.show(1, 0);
        Due.ints(x, 2, 1, 2, 99);
        told(x, -1, 0, 0, -2);
        told(x, 8, 0, 0, -2);
        told(x, 0, -1, 0, -2);
        told(x, 1, 41, 0, -2);
        told(x, 0, 0, 1, -2);
        told(x, 1, 0, -1, -2);
        told(x, 1, 40, 0, -3);
        told(x, 0, 40, 0, -4);
        told(x, 2, 4, 0, -2);
        Due.refused(x, "nears WRONG", -5, () -> x.nears(2, 3, 0));
        Due.refused(x, "done WRONG", -5, () -> x.done(2, 3, 0));
        Due.accepted(x, "judge WRONG", 2, () -> x.judge(2, 3, 0));
        Due.due("he is as SURE as he was", x.walkerOf(0, 1), 6);
        Due.due("he is where he was", x.walkerOf(0, 0), 0);
    }

    private static void told(PointAtWhoIsLost x, int s, int n, int walker, int want) {
        String by = "(" + s + ", " + n + ", " + walker + ")";
        Due.refused(x, "judge" + by, want, () -> x.judge(s, n, walker));
        Due.refused(x, "nears" + by, want, () -> x.nears(s, n, walker));
        Due.refused(x, "done" + by, want, () -> x.done(s, n, walker));
    }
}
