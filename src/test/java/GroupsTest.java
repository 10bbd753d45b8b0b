/** Promises 23, 24, 26 to 28, 30, 34 and 35: where one may be, and how far POSTS tell CELLS apart. */
public final class GroupsTest {
    public static void main(String[] args) {
        where();
        whereRefusals();
        next();
        falsePair();
        ofRefusals();
        apart();
        fewest();
        more();
        alike();
        bestPair();
        idlest();
        Due.end();
    }

    private static void where() {
        PointAtWhoIsLost x = Due.of("side 5;post 0 0 22;post 2 1 0;bog 14;walker 0 0;walker 1 0");
        Due.ints(x, 0, 0, 2, 1, -1);
        Due.accepted(x, "where(0, 0, -1)", 24, () -> x.where(0, 0, -1));
        Due.accepted(x, "right of 22", 2, () -> x.where(0, 1, -1));
        Due.accepted(x, "the first", 23, () -> x.where(0, 1, 0));
        Due.accepted(x, "the second", 24, () -> x.where(0, 1, 1));
        Due.refused(x, "the third", -5, () -> x.where(0, 1, 2));
        Due.accepted(x, "by two pairs", 2, () -> x.where(0, 2, -1));
        x.set(0, 3, 8);
        Due.accepted(x, "at 0, and right of 22", 0, () -> x.where(0, 2, -1));
        Due.refused(x, "the first of none", -5, () -> x.where(0, 2, 0));
        Due.due("where(0, 0, 0)", x.where(0, 0, 0), 0);
        Due.due("where(0, 0, 23)", x.where(0, 0, 23), 44);
        x.set(0, 1, 1);
        Due.due("up and right, but BOG", x.where(0, 1, -1), 3);
        Due.due("the first of them", x.where(0, 1, 0), 3);
        Due.due("the last of them", x.where(0, 1, 2), 13);
        x.row(1, 0, 2);
        x.set(1, 1, 255);
        Due.due("a byte 255 is -1: it trembles", x.where(1, 1, -1), 0);
        x.row(2, 4, 2);
        x.set(2, 0, 9);
        x.set(2, 1, 9);
        Due.due("booleans: POST 1, ARM 1", x.where(2, 1, -1), 0);
        x.set(2, 1, 0);
        Due.due("booleans: POST 1, ARM 0", x.where(2, 1, -1), 0);
        x.set(2, 0, 0);
        Due.due("booleans: POST 0, ARM 0", x.where(2, 1, -1), 2);
        x.row(3, 3, 40);
        for (int i = 1; i < 40; i += 2) {
            x.set(3, i, 8);
        }
        Due.due("20 pairs", x.where(3, 20, -1), 1);
        Due.due("20 pairs", x.where(3, 20, 0), 22);
    }

    private static void whereRefusals() {
        PointAtWhoIsLost x = Due.of("post 0 0 22");
        x.show(1, 0);
        Due.ints(x, 2, 0, 9, 1, 0);
        Due.ints(x, 3, 0, -2);
        Due.ints(x, 4, 0, 0, 0, 0, 0);
        x.row(5, 3, 2);
        x.set(5, 0, 1L << 32);
        Due.refused(x, "where(-1, ..)", -2, () -> x.where(-1, 0, -1));
        Due.refused(x, "where(8, ..)", -2, () -> x.where(8, 0, -1));
        Due.refused(x, "n -1 of a POST", -2, () -> x.where(1, -1, -1));
        Due.refused(x, "n 21 of NOTHING", -2, () -> x.where(0, 21, -1));
        Due.refused(x, "i -2 of NOTHING", -2, () -> x.where(0, 0, -2));
        Due.refused(x, "where of a POST", -3, () -> x.where(1, 20, 9));
        Due.refused(x, "where of NOTHING", -4, () -> x.where(0, 20, 9));
        Due.refused(x, "fewer elements", -2, () -> x.where(2, 3, 99));
        Due.refused(x, "fewer elements by one", -2, () -> x.where(4, 3, -1));
        Due.refused(x, "ARM 9", -5, () -> x.where(2, 1, -1));
        Due.refused(x, "ARM -2", -5, () -> x.where(3, 1, -1));
        Due.refused(x, "no such POST, a long", -5, () -> x.where(5, 1, -1));
        x.set(5, 0, 0);
        x.set(5, 1, -1L << 32);
        Due.refused(x, "no ARM, a long", -5, () -> x.where(5, 1, -1));
        Due.ints(x, 6, 0, 0, 0, 9, 0, 0);
        Due.refused(x, "ARM 9 of the second pair", -5, () -> x.where(6, 2, -1));
        Due.ints(x, 6, 0, 0, 1, 0);
        Due.refused(x, "no such POST in the second pair", -5, () -> x.where(6, 2, -1));
        x.set(4, 0, 1);
        Due.refused(x, "no such POST", -5, () -> x.where(4, 2, -1));
        x.set(4, 0, -1);
        Due.refused(x, "no POST -1", -5, () -> x.where(4, 1, -1));
        Due.accepted(x, "what stands behind n", 25, () -> x.where(4, 0, -1));
    }

    private static void next() {
        PointAtWhoIsLost x = new PointAtWhoIsLost();
        x.row(0, 2, 40);
        Due.accepted(x, "NEXT, no POSTS", -1, () -> x.of(0, 0, 0));
        Due.fen(x, "post 2 0 22;post 0 0 0;post 0 0 22;post 5 0 22");
        // by post 1 at most 12 of 25 CELLS are left, by 2 and 3 at most 5
        Due.accepted(x, "NEXT, of all", 2, () -> x.of(0, 0, 0));
        x.set(0, 0, 0);
        x.set(0, 1, 8);
        Due.accepted(x, "NEXT, a single CELL", -1, () -> x.of(0, 1, 0));
        x.set(0, 0, 2);
        x.set(0, 1, 2);
        Due.accepted(x, "NEXT, 23 and 24: none tells them apart", 0, () -> x.of(0, 1, 0));
        x.post(0, 0, 3);
        Due.accepted(x, "NEXT, 23 and 24: 4 does", 4, () -> x.of(0, 1, 0));
        x.set(0, 1, -1);
        Due.accepted(x, "NEXT, no CELL", -1, () -> x.of(0, 1, 0));
    }

    private static void falsePair() {
        PointAtWhoIsLost x = Due.of("post 0 0 22;post 0 0 0;post 0 0 44");
        Due.ints(x, 0, 0, 2, 0, 6, 1, 8, 0, 6);
        Due.accepted(x, "FALSE, no pairs", -1, () -> x.of(0, 0, 1));
        Due.accepted(x, "FALSE, one fits", -1, () -> x.of(0, 1, 1));
        Due.accepted(x, "FALSE, either of two", 0, () -> x.of(0, 2, 1));
        Due.accepted(x, "FALSE, none of three alone", 0, () -> x.of(0, 3, 1));
        x.set(0, 4, 0);
        x.set(0, 5, 6);
        Due.accepted(x, "FALSE, one against two", 0, () -> x.of(0, 3, 1));
        x.set(0, 1, 6);
        x.set(0, 3, 2);
        Due.accepted(x, "FALSE, the second", 1, () -> x.of(0, 3, 1));
        Due.ints(x, 1, 0, 3, 1, 8);
        // without the second pair four CELLS fit, without the first one
        Due.accepted(x, "FALSE, the more CELLS", 1, () -> x.of(1, 2, 1));
        Due.ints(x, 2, 1, 8, 0, 3);
        Due.accepted(x, "FALSE, the more CELLS", 0, () -> x.of(2, 2, 1));
        Due.ints(x, 4, 0, 2, 1, 8);
        // without the first pair 0 alone fits, without the second 23 and 24
        Due.accepted(x, "FALSE, two CELLS against 0", 1, () -> x.of(4, 2, 1));
        Due.ints(x, 4, 0, 8, 1, 8, 1, 8);
        Due.accepted(x, "FALSE, 0 alone", 0, () -> x.of(4, 3, 1));
        Due.ints(x, 4, 1, 8, 1, 8, 0, 8);
        Due.accepted(x, "FALSE, 0 alone", 2, () -> x.of(4, 3, 1));
        Due.ints(x, 3, 0, -1);
        Due.accepted(x, "FALSE, a single pair", 0, () -> x.of(3, 1, 1));
    }

    private static void ofRefusals() {
        PointAtWhoIsLost x = Due.of("post 0 0 22");
        x.show(1, 0);
        Due.ints(x, 2, 0, 9, 1, 0);
        Due.refused(x, "of(-1, ..)", -2, () -> x.of(-1, 0, 0));
        Due.refused(x, "of(8, ..)", -2, () -> x.of(8, 0, 0));
        Due.refused(x, "n -1 of a POST", -2, () -> x.of(1, -1, 0));
        Due.refused(x, "n 21 of NOTHING", -2, () -> x.of(0, 21, 0));
        Due.refused(x, "what -1 of NOTHING", -2, () -> x.of(0, 0, -1));
        Due.refused(x, "what 2 of a POST", -2, () -> x.of(1, 0, 2));
        Due.refused(x, "of of a POST", -3, () -> x.of(1, 20, 0));
        Due.refused(x, "of of NOTHING", -4, () -> x.of(0, 20, 1));
        Due.refused(x, "fewer elements", -2, () -> x.of(2, 3, 0));
        Due.refused(x, "ARM 9", -5, () -> x.of(2, 1, 0));
        x.set(2, 1, 8);
        Due.refused(x, "no such POST", -5, () -> x.of(2, 2, 1));
        Due.accepted(x, "what stands behind n", -1, () -> x.of(2, 1, 1));
    }

    private static void apart() {
        PointAtWhoIsLost x = Due.of("side 5;bog 44");
        groups(x, "no POSTS", 1, 24, 24);
        x.post(2, 1, 22);
        groups(x, "LAZY", 6, 19, 19);
        x.post(4, 0, 0);
        groups(x, "ROTTEN, too", 7, 18, 18);
        x.post(0, 0, 22);
        x.walker(0, 0);
        x.walker(43, 0);
        groups(x, "POST, too", 14, 4, 0);
        Due.refused(x, "apart(3)", -2, () -> x.apart(3));
        Due.refused(x, "apart(-1)", -2, () -> x.apart(-1));
    }

    private static void groups(PointAtWhoIsLost x, String when, int groups, int greatest, int blind) {
        Due.accepted(x, when + ": apart(0)", groups, () -> x.apart(0));
        Due.accepted(x, when + ": apart(1)", greatest, () -> x.apart(1));
        Due.accepted(x, when + ": apart(2)", blind, () -> x.apart(2));
    }

    private static void fewest() {
        PointAtWhoIsLost x = new PointAtWhoIsLost();
        sets(x, "no POSTS", 0, 0);
        x.post(0, 0, 22);
        sets(x, "one", 1, 1);
        x.post(1, 0, 22);
        sets(x, "two alike", 1, 1);
        x.post(3, 0, 22);
        sets(x, "three alike", 1, 1);
        x.post(2, 0, 0);
        sets(x, "a LAZY one at 0", 2, 9);
        PointAtWhoIsLost y = Due.of("post 2 0 0;post 2 1 0;post 2 2 0;post 0 0 0");
        sets(y, "LAZY ones at 0", 3, 14);
        PointAtWhoIsLost z = Due.of("post 2 0 0;post 2 0 1;post 2 0 1;post 2 0 0");
        // {1, 0}, {2, 0}, {1, 3} and {2, 3} do
        sets(z, "the first by bits", 2, 3);
        PointAtWhoIsLost idle = Due.of("bog 1;post 2 0 1");
        sets(idle, "one that always trembles", 0, 0);
        Due.refused(x, "fewest(2)", -2, () -> x.fewest(2));
        Due.refused(x, "fewest(-1)", -2, () -> x.fewest(-1));
    }

    private static void sets(PointAtWhoIsLost x, String when, int many, int bits) {
        Due.accepted(x, when + ": fewest(0)", many, () -> x.fewest(0));
        Due.accepted(x, when + ": fewest(1)", bits, () -> x.fewest(1));
    }

    private static void more() {
        PointAtWhoIsLost x = new PointAtWhoIsLost();
        Due.accepted(x, "more(), no POSTS", 11, () -> x.more());
        x.bog(11, true);
        Due.due("more(), in BOG as well as not", x.more(), 12);
        PointAtWhoIsLost y = Due.of("side 5;bog 1;bog 10;bog 11;bog 2;bog 20;bog 22;bog 12;bog 21");
        for (int cell = 0; cell < 45; cell++) {
            if (cell % 10 < 5 && cell != 0 && cell != 44) {
                y.bog(cell, true);
            }
        }
        Due.due("more(), two CELLS left", y.more(), 0);
        y.post(0, 0, 0);
        Due.due("more(), nothing to tell apart", y.more(), 0);
        for (int i = 0; i < 7; i++) {
            y.post(0, 0, 0);
        }
        Due.accepted(y, "more(), FULL", 0, () -> y.more());
        PointAtWhoIsLost z = Due.of("side 5;home 22");
        for (int cell = 0; cell < 45; cell++) {
            if (cell % 10 < 5 && cell != 21 && cell != 22 && cell != 23) {
                z.bog(cell, true);
            }
        }
        // of 21, 22 and 23: 0 sees 4, 3 and 3, 1 sees 4, 3 and 3; 2 sees 5, 4 and 3, and is BOG
        Due.due("more(), BOG", z.more(), 2);
        // 21 is told apart already: one that tells 22 from 23 does, though others see more by themselves
        z.post(2, 0, 21);
        z.bestPair();
        Due.due("more(), with what there is", z.more(), 2);
        z.post(0, 0, 2);
        Due.due("more(), all are apart", z.more(), 0);
        PointAtWhoIsLost row = Due.of("bog 3;bog 4");
        for (int cell = 10; cell < 45; cell++) {
            if (cell % 10 < 5) {
                row.bog(cell, true);
            }
        }
        Due.due("more() of 0, 1 and 2", row.more(), 1);
        row.post(2, 0, 0);
        row.fewest(0);
        Due.due("more() of 0, 1 and 2, with 0 apart", row.more(), 1);
        row.post(2, 0, 2);
        row.fewest(0);
        Due.due("more() of 0, 1 and 2, all apart", row.more(), 0);
    }

    private static void alike() {
        PointAtWhoIsLost x = Due.of("bog 44;post 0 0 22");
        Due.accepted(x, "alike(22)", 1, () -> x.alike(22));
        Due.accepted(x, "alike(0)", 4, () -> x.alike(0));
        Due.accepted(x, "alike(33)", 3, () -> x.alike(33));
        Due.accepted(x, "alike(2)", 2, () -> x.alike(2));
        Due.refused(x, "alike(44) in BOG", -2, () -> x.alike(44));
        Due.refused(x, "alike(5)", -2, () -> x.alike(5));
        Due.refused(x, "alike(-1)", -2, () -> x.alike(-1));
        PointAtWhoIsLost y = Due.of("bog 44");
        Due.due("alike(0), no POSTS", y.alike(0), 24);
    }

    private static void bestPair() {
        PointAtWhoIsLost x = new PointAtWhoIsLost();
        Due.accepted(x, "bestPair(), no POSTS", -1, () -> x.bestPair());
        x.post(2, 0, 0);
        Due.accepted(x, "bestPair(), one", -1, () -> x.bestPair());
        x.post(2, 0, 0);
        Due.accepted(x, "bestPair(), two", 1, () -> x.bestPair());
        x.post(2, 0, 1);
        Due.accepted(x, "bestPair(), of several the first", 2, () -> x.bestPair());
        x.post(2, 0, 1);
        Due.accepted(x, "bestPair(), of several the first", 2, () -> x.bestPair());
        x.post(2, 1, 11);
        x.post(0, 0, 22);
        Due.accepted(x, "bestPair()", 45, () -> x.bestPair());
    }

    private static void idlest() {
        PointAtWhoIsLost x = new PointAtWhoIsLost();
        Due.refused(x, "idlest(), no POSTS", -5, () -> x.idlest());
        x.post(0, 0, 22);
        Due.accepted(x, "idlest(), one", 0, () -> x.idlest());
        x.post(2, 0, 0);
        Due.accepted(x, "idlest(), the LAZY one", 1, () -> x.idlest());
        x.post(1, 0, 22);
        Due.accepted(x, "idlest(), the first of two alike", 0, () -> x.idlest());
    }
}
