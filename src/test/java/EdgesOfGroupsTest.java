/** The edges of where one may be and of how POSTS tell CELLS apart (promises 23, 24, 26 to 28, 30, 34, 35). */
public final class EdgesOfGroupsTest {
    private static final int STUCK = -5;
    private static final int BAD = -2;

    public static void main(String[] args) {
        whereByNoPairs();
        whereTheIth();
        whereTakes0To20Pairs();
        whereNeedsAsManyElements();
        wherePostsThatAre();
        whereArmsThatAre();
        whereByEverySort();
        whereWhateverIsReallySo();
        nextOfFewerThanTwoCells();
        nextOfNoPosts();
        nextOfSeveralTheFirst();
        falseOnlyIfNoneFits();
        falseOfSeveralTheLeast();
        falseAmong20();
        apartOfOneCell();
        apartWithoutPosts();
        blindIfAllTremble();
        fewestOfNone();
        fewestOfEight();
        moreOfSeveralTheFirst();
        moreIsOfTheFen();
        moreThoughFull();
        alikeItselfToo();
        pairsOfFewerThanTwo();
        pairsOfEight();
        idlestOfNone();
        idlestOfEight();
        Due.end();
    }

    /** All CELLS are BOG but these, of which the first is HOME. */
    private static PointAtWhoIsLost dryOnly(int... cells) {
        PointAtWhoIsLost x = new PointAtWhoIsLost();
        x.home(cells[0]);
        for (int cell = 0; cell <= 44; cell++) {
            boolean dry = cell % 10 > 4;
            for (int one : cells) {
                dry |= one == cell;
            }
            if (!dry) {
                x.bog(cell, true);
            }
        }
        Due.due("CELLS that are BOG", x.status(5), 25 - cells.length);
        return x;
    }

    private static void whereByNoPairs() {
        PointAtWhoIsLost x = Due.of("side 7;bog 66;bog 3");
        x.row(0, 2, 0);
        Due.accepted(x, "how many", 47, () -> x.where(0, 0, -1));
        int place = 0;
        for (int cell = 0; cell < 66; cell++) {
            if (cell % 10 < 7 && cell != 3) {
                Due.due("place " + place, x.where(0, 0, place), cell);
                place++;
            }
        }
        Due.refused(x, "one more", STUCK, () -> x.where(0, 0, 47));
        PointAtWhoIsLost y = dryOnly(22);
        y.row(7, 4, 0);
        Due.accepted(y, "one CELL", 1, () -> y.where(7, 0, -1));
        Due.accepted(y, "that one", 22, () -> y.where(7, 0, 0));
        Due.refused(y, "no second one", STUCK, () -> y.where(7, 0, 1));
    }

    private static void whereTheIth() {
        PointAtWhoIsLost x = Due.of("post 0 0 22");
        Due.ints(x, 0, 0, 7, 0, 3);
        int[] up = {0, 1, 10, 11};
        Due.accepted(x, "up and left", 4, () -> x.where(0, 1, -1));
        for (int i = 0; i < 4; i++) {
            int place = i;
            Due.accepted(x, "up and left, " + i, up[i], () -> x.where(0, 1, place));
        }
        int[] beyond = {4, 5, 25, Integer.MAX_VALUE};
        for (int i : beyond) {
            Due.refused(x, "up and left, " + i, STUCK, () -> x.where(0, 1, i));
        }
        int[] below = {-2, -3, Integer.MIN_VALUE};
        for (int i : below) {
            Due.refused(x, "up and left, " + i, BAD, () -> x.where(0, 1, i));
        }
        Due.accepted(x, "up and left and down and right", 0, () -> x.where(0, 2, -1));
        Due.refused(x, "the first of none", STUCK, () -> x.where(0, 2, 0));
    }

    private static void whereTakes0To20Pairs() {
        for (int n = -1; n <= 22; n++) {
            PointAtWhoIsLost x = Due.of("post 0 0 22");
            x.row(0, 0, 40);
            for (int i = 1; i < 40; i += 2) {
                x.set(0, i, i < 39 ? 3 : 8);
            }
            int many = n;
            if (n < 0 || n > 20) {
                Due.refused(x, "where by " + n, BAD, () -> x.where(0, many, -1));
                Due.refused(x, "of by " + n, BAD, () -> x.of(0, many, 1));
            } else {
                Due.accepted(x, "where by " + n, n == 0 ? 25 : n < 20 ? 4 : 0, () -> x.where(0, many, -1));
                Due.accepted(x, "of by " + n, n < 20 ? -1 : 19, () -> x.of(0, many, 1));
            }
        }
    }

    private static void whereNeedsAsManyElements() {
        for (int elements = 0; elements <= 6; elements++) {
            PointAtWhoIsLost x = Due.of("post 0 0 22");
            x.row(0, 1, elements);
            for (int n = 0; n <= 4; n++) {
                int many = n;
                String call = n + " pairs of " + elements + " elements";
                if (2 * n <= elements) {
                    // the ARM is 0: up
                    Due.accepted(x, "where by " + call, n == 0 ? 25 : 2, () -> x.where(0, many, -1));
                    Due.accepted(x, "of by " + call, 0, () -> x.of(0, many, 0));
                } else {
                    Due.refused(x, "where by " + call, BAD, () -> x.where(0, many, -1));
                    Due.refused(x, "of by " + call, BAD, () -> x.of(0, many, 0));
                }
            }
        }
        PointAtWhoIsLost y = Due.of("post 0 0 22");
        y.row(0, 1, 39);
        Due.accepted(y, "19 pairs of 39 elements", 2, () -> y.where(0, 19, -1));
        Due.refused(y, "20 pairs of 39 elements", BAD, () -> y.where(0, 20, -1));
        y.row(0, 1, 40);
        Due.accepted(y, "20 pairs of 40 elements", 2, () -> y.where(0, 20, -1));
        Due.refused(y, "21 pairs of 40 elements", BAD, () -> y.where(0, 21, -1));
    }

    private static void wherePostsThatAre() {
        for (int posts = 0; posts <= 8; posts++) {
            PointAtWhoIsLost x = new PointAtWhoIsLost();
            for (int i = 0; i < posts; i++) {
                x.post(2, 0, i % 5 + 10 * (i / 5));
            }
            for (int post = -1; post <= 9; post++) {
                Due.ints(x, 0, post, 8);
                String call = "by POST " + post + " of " + posts;
                if (post >= 0 && post < posts) {
                    Due.due("where " + call, x.where(0, 1, 0), post % 5 + 10 * (post / 5));
                    Due.due("of " + call, x.of(0, 1, 0), -1);
                } else {
                    Due.due("where " + call, x.where(0, 1, -1), STUCK);
                    Due.due("of " + call, x.of(0, 1, 0), STUCK);
                }
            }
            Due.due("STUCK among " + posts, x.status(15), 2 * (11 - posts));
            Due.ints(x, 1, 9, 9, 0, 0);
            Due.due("what stands behind n is not looked at", x.where(1, 0, -1), 25);
            Due.due("what stands behind n is not looked at", x.of(1, 0, 1), -1);
        }
    }

    private static void whereArmsThatAre() {
        // within 2 STEPS of 22 there are 2, 12, 20, 22, 23, 24 and 42
        int[] want = {12, 2, 0, 2, 0, 1, 0, 1, 0, 1};
        for (int arm = -4; arm <= 11; arm++) {
            PointAtWhoIsLost x = Due.of("post 2 2 22;bog 13;bog 33;bog 32;bog 31;bog 21;bog 11");
            Due.ints(x, 0, 0, arm);
            String call = "by ARM " + arm;
            if (arm >= -1 && arm <= 8) {
                int due = want[arm + 1];
                Due.accepted(x, "where " + call, due, () -> x.where(0, 1, -1));
                Due.accepted(x, "FALSE " + call, due == 0 ? 0 : -1, () -> x.of(0, 1, 1));
            } else {
                Due.refused(x, "where " + call, STUCK, () -> x.where(0, 1, -1));
                Due.refused(x, "FALSE " + call, STUCK, () -> x.of(0, 1, 1));
                Due.refused(x, "NEXT " + call, STUCK, () -> x.of(0, 1, 0));
            }
        }
    }

    private static void whereByEverySort() {
        PointAtWhoIsLost x = Due.of("post 2 1 22;post 2 0 22");
        for (int sort = 0; sort < 4; sort++) {
            int o = sort;
            x.row(sort, sort, 2);
            x.set(sort, 1, -1);
            Due.accepted(x, "SORT " + sort + ", it trembles", 20, () -> x.where(o, 1, -1));
            x.set(sort, 1, 6);
            Due.accepted(x, "SORT " + sort + ", left", 21, () -> x.where(o, 1, 0));
        }
        x.row(4, 4, 2);
        Due.accepted(x, "booleans, POST 0 up", 12, () -> x.where(4, 1, 0));
        x.set(4, 0, 2);
        Due.accepted(x, "booleans, POST 1 up", 0, () -> x.where(4, 1, -1));
        x.set(0, 0, 256);
        Due.accepted(x, "a byte 256 is POST 0", 21, () -> x.where(0, 1, 0));
        x.set(1, 0, 65536);
        Due.accepted(x, "a short 65536 is POST 0", 21, () -> x.where(1, 1, 0));
        x.set(2, 0, 1L << 32);
        Due.accepted(x, "an int 2 to the 32nd is POST 0", 21, () -> x.where(2, 1, 0));
        x.set(3, 0, 1L << 32);
        Due.refused(x, "a long 2 to the 32nd is no POST", STUCK, () -> x.where(3, 1, 0));
        x.set(3, 0, 0);
        x.set(3, 1, (1L << 32) + 6);
        Due.refused(x, "nor is there such an ARM", STUCK, () -> x.where(3, 1, 0));
        x.set(3, 1, (1L << 32) - 1);
        Due.refused(x, "nor does it tremble", STUCK, () -> x.where(3, 1, -1));
        x.set(3, 1, Long.MIN_VALUE);
        Due.refused(x, "nor so", STUCK, () -> x.where(3, 1, -1));
    }

    private static void whereWhateverIsReallySo() {
        PointAtWhoIsLost x = Due.of("post 0 0 22;walker 0 0;walker 44 0;walker 24 9;home 23");
        Due.ints(x, 0, 0, 2);
        Due.accepted(x, "by the ARM to the right", 2, () -> x.where(0, 1, -1));
        Due.accepted(x, "at HOME, too", 23, () -> x.where(0, 1, 0));
        Due.accepted(x, "where one is who is SURE, too", 24, () -> x.where(0, 1, 1));
        x.set(0, 1, -1);
        Due.accepted(x, "it trembles as things are, but by one it wouldn't", 0, () -> x.where(0, 1, -1));
    }

    private static void nextOfFewerThanTwoCells() {
        PointAtWhoIsLost x = Due.of("post 0 0 22;post 0 0 2");
        Due.ints(x, 0, 0, 8, 0, 0);
        Due.accepted(x, "one CELL", -1, () -> x.of(0, 1, 0));
        Due.accepted(x, "no CELL", -1, () -> x.of(0, 2, 0));
        x.set(0, 1, 0);
        Due.accepted(x, "two CELLS: 2 and 12", 1, () -> x.of(0, 1, 0));
        x.bog(12, true);
        Due.accepted(x, "one is BOG", -1, () -> x.of(0, 1, 0));
        PointAtWhoIsLost y = dryOnly(22);
        y.row(0, 2, 0);
        y.post(0, 0, 22);
        Due.accepted(y, "HOME alone", -1, () -> y.of(0, 0, 0));
        PointAtWhoIsLost z = dryOnly(22, 44);
        z.row(0, 2, 0);
        z.post(0, 0, 0);
        Due.accepted(z, "two, which it doesn't tell apart", 0, () -> z.of(0, 0, 0));
    }

    private static void nextOfNoPosts() {
        PointAtWhoIsLost x = new PointAtWhoIsLost();
        x.row(0, 2, 0);
        Due.accepted(x, "no POSTS, 25 CELLS", -1, () -> x.of(0, 0, 0));
        x.post(2, 0, 0);
        Due.accepted(x, "one POST", 0, () -> x.of(0, 0, 0));
    }

    private static void nextOfSeveralTheFirst() {
        PointAtWhoIsLost x = Due.of("post 2 0 0;post 2 0 1;post 2 0 1");
        x.row(0, 2, 0);
        Due.accepted(x, "all leave 24", 0, () -> x.of(0, 0, 0));
        x.post(2, 1, 0);
        Due.accepted(x, "the fourth leaves 22", 3, () -> x.of(0, 0, 0));
        x.post(2, 1, 1);
        Due.accepted(x, "the fifth leaves 21", 4, () -> x.of(0, 0, 0));
        x.post(2, 1, 10);
        Due.accepted(x, "the sixth, too", 4, () -> x.of(0, 0, 0));
        x.post(2, 1, 22);
        Due.accepted(x, "the seventh leaves 20", 6, () -> x.of(0, 0, 0));
        x.post(1, 0, 22);
        Due.accepted(x, "the eighth leaves 4", 7, () -> x.of(0, 0, 0));
        // all of 20 tremble: that is an ARM like others
        Due.ints(x, 1, 6, -1);
        Due.accepted(x, "the seventh is told", 7, () -> x.of(1, 1, 0));
        PointAtWhoIsLost y = Due.of("post 2 1 22;post 2 0 2");
        Due.ints(y, 1, 0, -1);
        Due.accepted(y, "one of 20 told by the second", 1, () -> y.of(1, 1, 0));
        // the first makes 6 groups, one of 20 CELLS; the second 4, the greatest of 12
        PointAtWhoIsLost z = Due.of("post 2 1 22;post 0 0 0");
        z.row(0, 2, 0);
        Due.accepted(z, "the worst case counts, not how many groups", 1, () -> z.of(0, 0, 0));
        z.row(0, 2, 2);
        z.set(0, 0, 1);
        z.set(0, 1, 3);
        // of the 12, the first tells 12, 21, 22, 23 and 32 from 7 others; the second none
        Due.accepted(z, "only the CELLS that fit count", 0, () -> z.of(0, 1, 0));
    }

    private static void falseOnlyIfNoneFits() {
        PointAtWhoIsLost x = Due.of("post 0 0 22");
        Due.ints(x, 0, 0, 8, 0, 0);
        Due.accepted(x, "no pairs: all fit", -1, () -> x.of(0, 0, 1));
        Due.accepted(x, "one fits", -1, () -> x.of(0, 1, 1));
        Due.accepted(x, "none fits", 0, () -> x.of(0, 2, 1));
        x.bog(22, true);
        Due.accepted(x, "a single pair, none fits", 0, () -> x.of(0, 1, 1));
        PointAtWhoIsLost y = dryOnly(22);
        y.post(0, 0, 22);
        Due.ints(y, 0, 0, 8);
        Due.accepted(y, "HOME alone fits", -1, () -> y.of(0, 1, 1));
        y.set(0, 1, 0);
        Due.accepted(y, "HOME alone does not", 0, () -> y.of(0, 1, 1));
    }

    private static void falseOfSeveralTheLeast() {
        PointAtWhoIsLost x = Due.of("post 0 0 22");
        // 0: 2 CELLS, 1, 3: 4 CELLS, 8: 1
        falsePair(x, 0, 0, 0, 0, 1);
        falsePair(x, 1, 0, 1, 0, 0);
        falsePair(x, 0, 0, 1, 0, 3);
        falsePair(x, 0, 0, 3, 0, 1);
        falsePair(x, 0, 0, 8, 0, 0);
        falsePair(x, 1, 0, 0, 0, 8);
        falsePair(x, 2, 0, 1, 0, 1, 0, 3);
        falsePair(x, 1, 0, 1, 0, 3, 0, 1);
        falsePair(x, 0, 0, 3, 0, 1, 0, 1);
        // without any one of them none fits: the least
        falsePair(x, 0, 0, 1, 0, 3, 0, 5);
        falsePair(x, 0, 0, 1, 0, 1, 0, 3, 0, 3);
    }

    private static void falsePair(PointAtWhoIsLost x, int want, long... pairs) {
        Due.ints(x, 0, pairs);
        Due.accepted(x, "FALSE of " + java.util.Arrays.toString(pairs), want, () -> x.of(0, pairs.length / 2, 1));
    }

    private static void falseAmong20() {
        for (int wrong = 0; wrong < 20; wrong++) {
            PointAtWhoIsLost x = Due.of("post 0 0 22");
            x.row(0, 0, 40);
            for (int pair = 0; pair < 20; pair++) {
                x.set(0, 2 * pair + 1, pair == wrong ? 4 : 3);
            }
            int want = wrong;
            Due.accepted(x, "the wrong one of 20", want, () -> x.of(0, 20, 1));
            Due.accepted(x, "up to it all fit", -1, () -> x.of(0, want, 1));
        }
    }

    private static void groups(PointAtWhoIsLost x, String when, int groups, int greatest, int blind) {
        Due.accepted(x, when + ": groups", groups, () -> x.apart(0));
        Due.accepted(x, when + ": the greatest", greatest, () -> x.apart(1));
        Due.accepted(x, when + ": BLIND", blind, () -> x.apart(2));
    }

    private static void apartOfOneCell() {
        PointAtWhoIsLost x = dryOnly(22);
        groups(x, "HOME alone, no POSTS", 1, 1, 1);
        x.post(2, 0, 21);
        groups(x, "HOME alone, LAZY too far", 1, 1, 1);
        x.post(2, 1, 21);
        groups(x, "HOME alone, LAZY near enough", 1, 1, 0);
        Due.accepted(x, "alike(22)", 1, () -> x.alike(22));
        Due.accepted(x, "fewest(0)", 0, () -> x.fewest(0));
        Due.accepted(x, "more()", 0, () -> x.more());
    }

    private static void apartWithoutPosts() {
        int[] sides = {5, 6, 7};
        for (int side : sides) {
            PointAtWhoIsLost x = new PointAtWhoIsLost();
            x.side(side);
            groups(x, "SIDE " + side, 1, side * side, side * side);
            Due.accepted(x, "SIDE " + side + ": alike(0)", side * side, () -> x.alike(0));
        }
    }

    private static void blindIfAllTremble() {
        PointAtWhoIsLost x = Due.of("side 7;post 2 0 0;post 2 0 66;post 4 1 33;post 2 1 6");
        // 1 and 1 CELLS, 5 in five groups, 3 in three
        groups(x, "LAZY ones", 11, 39, 39);
        x.walker(1, 0);
        x.walker(2, 0);
        groups(x, "whoever is LOST", 11, 39, 39);
        x.bog(66, true);
        x.bog(5, true);
        groups(x, "some of it BOG", 9, 39, 39);
        x.post(5, 0, 33);
        Due.accepted(x, "TORN never trembles", 0, () -> x.apart(2));
        PointAtWhoIsLost y = new PointAtWhoIsLost();
        for (int i = 0; i < 8; i++) {
            y.post(2, 0, 0);
        }
        groups(y, "eight alike", 2, 24, 24);
    }

    private static void fewestOfNone() {
        PointAtWhoIsLost x = new PointAtWhoIsLost();
        Due.accepted(x, "no POSTS", 0, () -> x.fewest(0));
        Due.accepted(x, "no POSTS: the set", 0, () -> x.fewest(1));
        x.bog(44, true);
        x.post(2, 0, 44);
        Due.accepted(x, "one that always trembles", 0, () -> x.fewest(0));
        x.post(2, 0, 43);
        Due.accepted(x, "one that doesn't", 1, () -> x.fewest(0));
        Due.accepted(x, "that one", 2, () -> x.fewest(1));
        x.post(2, 0, 43);
        Due.accepted(x, "of two alike one", 1, () -> x.fewest(0));
        Due.accepted(x, "the first", 2, () -> x.fewest(1));
    }

    private static void fewestOfEight() {
        int[] cells = {0, 4, 11, 13, 22, 31, 33, 44};
        PointAtWhoIsLost x = new PointAtWhoIsLost();
        PointAtWhoIsLost y = dryOnly(cells);
        for (int cell : cells) {
            x.post(2, 0, cell);
            y.post(2, 0, cell);
        }
        Due.accepted(x, "all eight are needed", 8, () -> x.fewest(0));
        Due.accepted(x, "all eight", 255, () -> x.fewest(1));
        Due.accepted(x, "nine groups", 9, () -> x.apart(0));
        Due.accepted(y, "any seven do", 7, () -> y.fewest(0));
        Due.accepted(y, "the first seven", 127, () -> y.fewest(1));
        Due.accepted(y, "eight groups", 8, () -> y.apart(0));
        PointAtWhoIsLost z = new PointAtWhoIsLost();
        for (int i = 0; i < 7; i++) {
            z.post(2, 0, 0);
        }
        z.post(2, 0, 1);
        Due.accepted(z, "seven alike and another", 2, () -> z.fewest(0));
        Due.accepted(z, "the first and the last", 129, () -> z.fewest(1));
    }

    private static void moreOfSeveralTheFirst() {
        PointAtWhoIsLost x = dryOnly(0);
        Due.accepted(x, "one CELL: all alike", 0, () -> x.more());
        PointAtWhoIsLost y = dryOnly(44);
        Due.accepted(y, "the other one: all alike", 0, () -> y.more());
        PointAtWhoIsLost z = dryOnly(44, 43);
        // 0 and 1 see both down and right; 2 sees 43 down
        Due.accepted(z, "43 and 44", 2, () -> z.more());
        PointAtWhoIsLost w = dryOnly(12, 22);
        // 0 to 4 see both the same way; 10 sees 12 right, and 22 down and right
        Due.accepted(w, "12 and 22", 10, () -> w.more());
        Due.due("it is BOG", w.isBog(10), 1);
    }

    /** Places off the fen would do as well, and have lesser numbers. */
    private static void moreIsOfTheFen() {
        PointAtWhoIsLost x = dryOnly(12, 22);
        Due.accepted(x, "12 and 22, not 5", 10, () -> x.more());
        PointAtWhoIsLost y = dryOnly(22, 23, 44);
        Due.accepted(y, "22, 23 and 44, not 15", 22, () -> y.more());
        PointAtWhoIsLost z = dryOnly(30, 40);
        Due.accepted(z, "30 and 40, not 7", 11, () -> z.more());
        z.side(7);
        Due.due("wider, all new CELLS are dry", z.status(5), 23);
    }

    private static void moreThoughFull() {
        PointAtWhoIsLost x = new PointAtWhoIsLost();
        Due.accepted(x, "no POSTS", 11, () -> x.more());
        for (int i = 0; i < 8; i++) {
            x.post(2, 0, 44);
        }
        Due.accepted(x, "eight POSTS", 11, () -> x.more());
        Due.refused(x, "there is no room for it", -6, () -> x.post(0, 0, 11));
    }

    private static void alikeItselfToo() {
        PointAtWhoIsLost x = Due.of("post 2 0 22;bog 44");
        Due.accepted(x, "alone", 1, () -> x.alike(22));
        Due.accepted(x, "all others", 23, () -> x.alike(0));
        Due.refused(x, "BOG", BAD, () -> x.alike(44));
        x.bog(22, true);
        Due.accepted(x, "all", 23, () -> x.alike(0));
        Due.refused(x, "BOG now", BAD, () -> x.alike(22));
        Due.refused(x, "no CELL", BAD, () -> x.alike(5));
        x.bog(22, false);
        Due.accepted(x, "alone again", 1, () -> x.alike(22));
        int sum = 0;
        PointAtWhoIsLost y = Due.of("post 0 0 22");
        for (int cell = 0; cell <= 44; cell++) {
            sum += cell % 10 < 5 ? y.alike(cell) : 0;
        }
        // eight groups: 4 of 2, 4 of 4 and 1 of 1
        Due.due("all groups, each by as many as are in it", sum, 4 * 4 + 4 * 16 + 1);
    }

    private static void pairsOfFewerThanTwo() {
        PointAtWhoIsLost x = new PointAtWhoIsLost();
        Due.accepted(x, "none", -1, () -> x.bestPair());
        x.post(0, 0, 22);
        Due.accepted(x, "one", -1, () -> x.bestPair());
        x.post(0, 0, 22);
        Due.accepted(x, "two", 1, () -> x.bestPair());
        x.post(0, 0, 22);
        Due.accepted(x, "three alike: the first two", 1, () -> x.bestPair());
        PointAtWhoIsLost y = dryOnly(22);
        y.post(0, 0, 1);
        y.post(0, 0, 2);
        y.post(0, 0, 3);
        Due.accepted(y, "nothing to tell apart: the first two", 1, () -> y.bestPair());
    }

    private static void pairsOfEight() {
        for (int lesser = 0; lesser < 8; lesser++) {
            for (int other = lesser + 1; other < 8; other++) {
                PointAtWhoIsLost x = new PointAtWhoIsLost();
                for (int post = 0; post < 8; post++) {
                    x.post(2, post == lesser || post == other ? 1 : 0, post == lesser ? 11 : post == other ? 33 : 22);
                }
                int want = 10 * lesser + other;
                Due.accepted(x, "the only two that see far", want, () -> x.bestPair());
            }
        }
    }

    private static void idlestOfNone() {
        PointAtWhoIsLost x = new PointAtWhoIsLost();
        Due.refused(x, "no POSTS", STUCK, () -> x.idlest());
        x.post(0, 0, 22);
        Due.accepted(x, "one", 0, () -> x.idlest());
        x.post(0, 0, 22);
        Due.accepted(x, "two alike", 0, () -> x.idlest());
    }

    private static void idlestOfEight() {
        int[] cells = {0, 4, 11, 13, 22, 31, 33, 44};
        for (int idle = 0; idle < 8; idle++) {
            PointAtWhoIsLost x = Due.of("home 1;bog 2");
            for (int post = 0; post < 8; post++) {
                x.post(2, 0, post == idle ? 2 : cells[post]);
            }
            int want = idle;
            Due.accepted(x, "the one that always trembles", want, () -> x.idlest());
        }
        PointAtWhoIsLost y = new PointAtWhoIsLost();
        for (int post = 0; post < 8; post++) {
            y.post(2, 0, cells[post]);
        }
        Due.accepted(y, "none idler than the others", 0, () -> y.idlest());
    }
}
