/** The edges of SHELVES, ROWS and what a POST says (section 3, promises 1 to 8): on them, just within, just beyond. */
public final class EdgesOfShelvesTest {
    private static final int BAD = -2;

    public static void main(String[] args) {
        eightShelvesHoldNothingAtFirst();
        sortsAre0To4();
        rowsHave0To40Elements();
        aNewRowIsAllZeros();
        bytesWrap();
        shortsWrap();
        intsWrap();
        longsStay();
        booleansAreWhetherItIsNot0();
        setOnlyWithinTheRow();
        copyOnlyWithinBothRows();
        copyOfNone();
        copyAsTheyWere();
        copyOfEachSort();
        elementOfNothingIs0();
        holdsAPostByItsNumber();
        showNoneIsNothing();
        saysA();
        saysArmByItsOwnKind();
        saysItTrembles();
        Due.end();
    }

    private static void eightShelvesHoldNothingAtFirst() {
        for (int s = -2; s <= 9; s++) {
            PointAtWhoIsLost x = new PointAtWhoIsLost();
            int shelf = s;
            boolean is = s >= 0 && s <= 7;
            Due.accepted(x, "holds(" + s + ") at first", -1, () -> x.holds(shelf));
            if (is) {
                Due.refused(x, "set of SHELF " + s + " at first", -4, () -> x.set(shelf, 0, 1));
                Due.accepted(x, "row in SHELF " + s, 1, () -> x.row(shelf, 3, 1));
                Due.accepted(x, "holds(" + s + ")", 3, () -> x.holds(shelf));
                Due.accepted(x, "set in SHELF " + s, 1, () -> x.set(shelf, 0, 77));
                Due.accepted(x, "element in SHELF " + s, 77, () -> x.element(shelf, 0));
            } else {
                Due.refused(x, "set of SHELF " + s, BAD, () -> x.set(shelf, 0, 1));
                Due.refused(x, "row in SHELF " + s, BAD, () -> x.row(shelf, 3, 1));
                Due.refused(x, "show in SHELF " + s, BAD, () -> x.show(shelf, -1));
                Due.refused(x, "says of SHELF " + s, BAD, () -> x.says(shelf, 0));
                Due.accepted(x, "element of SHELF " + s, 0, () -> x.element(shelf, 0));
            }
            Due.due("SHELVES that hold something", x.status(8), is ? 1 : 0);
            for (int other = 0; other < 8; other++) {
                Due.due("holds(" + other + ") behind row in " + s, x.holds(other), other == s ? 3 : -1);
            }
        }
    }

    private static void sortsAre0To4() {
        for (int sort = -2; sort <= 6; sort++) {
            PointAtWhoIsLost x = new PointAtWhoIsLost();
            int o = sort;
            if (sort >= 0 && sort <= 4) {
                Due.accepted(x, "row of SORT " + sort, 1, () -> x.row(0, o, 1));
                Due.due("holds a SORT", x.holds(0), sort);
            } else {
                Due.refused(x, "row of SORT " + sort, BAD, () -> x.row(0, o, 1));
                Due.due("holds NOTHING", x.holds(0), -1);
            }
        }
    }

    private static void rowsHave0To40Elements() {
        for (int n = -1; n <= 42; n++) {
            PointAtWhoIsLost x = new PointAtWhoIsLost();
            int many = n;
            for (int sort = 0; sort <= 4; sort++) {
                int o = sort;
                if (n >= 0 && n <= 40) {
                    Due.accepted(x, "row of " + n, 1, () -> x.row(o, o, many));
                    Due.refused(x, "set behind " + n, BAD, () -> x.set(o, many, 1));
                    if (n > 0) {
                        Due.accepted(x, "set of the last of " + n, 1, () -> x.set(o, many - 1, 1));
                        Due.accepted(x, "the last of " + n, 1, () -> x.element(o, many - 1));
                    }
                    Due.accepted(x, "none behind " + n, 0, () -> x.element(o, many));
                } else {
                    Due.refused(x, "row of " + n, BAD, () -> x.row(o, o, many));
                    Due.due("holds NOTHING", x.holds(o), -1);
                }
            }
        }
    }

    private static void aNewRowIsAllZeros() {
        PointAtWhoIsLost x = new PointAtWhoIsLost();
        x.row(3, 3, 40);
        for (int i = 0; i < 40; i++) {
            Due.due("at first " + i, x.element(3, i), 0);
            x.set(3, i, 100 + i);
        }
        x.row(2, 3, 40);
        x.set(2, 39, 7);
        x.row(3, 4, 2);
        Due.due("what was behind it", x.element(3, 2), 0);
        Due.due("new 0", x.element(3, 0), 0);
        Due.due("new 1", x.element(3, 1), 0);
        x.row(3, 3, 40);
        for (int i = 0; i < 40; i++) {
            Due.due("new " + i, x.element(3, i), 0);
        }
        Due.due("the ROW beside it", x.element(2, 39), 7);
    }

    private static void wraps(int sort, long put, long want) {
        PointAtWhoIsLost x = new PointAtWhoIsLost();
        x.row(6, sort, 3);
        Due.accepted(x, "SORT " + sort + ": set of " + put, 1, () -> x.set(6, 1, put));
        Due.due("SORT " + sort + ": element of " + put, x.element(6, 1), want);
        Due.due("the one ahead", x.element(6, 0), 0);
        Due.due("the one behind", x.element(6, 2), 0);
    }

    private static void bytesWrap() {
        long[] put = {0, 1, -1, 127, 128, 129, 255, 256, 257, -127, -128, -129, -256, -257, 384, 1L << 32, Long.MAX_VALUE, Long.MIN_VALUE};
        long[] want = {0, 1, -1, 127, -128, -127, -1, 0, 1, -127, -128, 127, 0, -1, -128, 0, -1, 0};
        for (int i = 0; i < put.length; i++) {
            wraps(0, put[i], want[i]);
        }
    }

    private static void shortsWrap() {
        long[] put = {128, 255, 256, 32767, 32768, 32769, 65535, 65536, 65537, -32768, -32769, -65536, Long.MAX_VALUE, Long.MIN_VALUE};
        long[] want = {128, 255, 256, 32767, -32768, -32767, -1, 0, 1, -32768, 32767, 0, -1, 0};
        for (int i = 0; i < put.length; i++) {
            wraps(1, put[i], want[i]);
        }
    }

    private static void intsWrap() {
        long[] put = {65536, 2147483647L, 2147483648L, 2147483649L, 4294967295L, 4294967296L, 4294967297L, -2147483648L,
            -2147483649L, Long.MAX_VALUE, Long.MIN_VALUE};
        long[] want = {65536, 2147483647L, -2147483648L, -2147483647L, -1, 0, 1, -2147483648L, 2147483647L, -1, 0};
        for (int i = 0; i < put.length; i++) {
            wraps(2, put[i], want[i]);
        }
    }

    private static void longsStay() {
        long[] put = {0, 2147483648L, 4294967296L, -2147483649L, Long.MAX_VALUE, Long.MIN_VALUE, -1};
        for (long one : put) {
            wraps(3, one, one);
        }
    }

    private static void booleansAreWhetherItIsNot0() {
        long[] put = {0, 1, 2, 3, -1, 256, 65536, 1L << 32, Long.MAX_VALUE, Long.MIN_VALUE};
        for (long one : put) {
            wraps(4, one, one == 0 ? 0 : 1);
        }
        PointAtWhoIsLost x = new PointAtWhoIsLost();
        x.row(0, 4, 1);
        x.set(0, 0, 8);
        x.set(0, 0, 0);
        Due.due("not so any more", x.element(0, 0), 0);
    }

    private static void setOnlyWithinTheRow() {
        for (int i = -2; i <= 5; i++) {
            PointAtWhoIsLost x = new PointAtWhoIsLost();
            Due.ints(x, 0, 10, 11, 12);
            int place = i;
            if (i >= 0 && i < 3) {
                Due.accepted(x, "set(0, " + i + ", 99)", 1, () -> x.set(0, place, 99));
            } else {
                Due.refused(x, "set(0, " + i + ", 99)", BAD, () -> x.set(0, place, 99));
            }
            for (int k = 0; k < 3; k++) {
                Due.due("element " + k + " behind set(0, " + i + ", 99)", x.element(0, k), k == i ? 99 : 10 + k);
            }
        }
    }

    /** Every i, j and n about two ROWS of 3 and 4 elements. */
    private static void copyOnlyWithinBothRows() {
        for (int i = -1; i <= 4; i++) {
            for (int j = -1; j <= 5; j++) {
                for (int n = -1; n <= 5; n++) {
                    PointAtWhoIsLost x = new PointAtWhoIsLost();
                    Due.ints(x, 0, 10, 11, 12);
                    Due.ints(x, 7, 20, 21, 22, 23);
                    int a = i;
                    int b = j;
                    int c = n;
                    String call = "copy(0, 7, " + i + ", " + j + ", " + n + ")";
                    boolean may = i >= 0 && j >= 0 && n >= 0 && i + n <= 3 && j + n <= 4;
                    if (may) {
                        Due.accepted(x, call, n, () -> x.copy(0, 7, a, b, c));
                    } else {
                        Due.refused(x, call, BAD, () -> x.copy(0, 7, a, b, c));
                    }
                    for (int k = 0; k < 4; k++) {
                        boolean comes = may && k >= j && k < j + n;
                        Due.due("element " + k + " behind " + call, x.element(7, k), comes ? 10 + i + k - j : 20 + k);
                    }
                    for (int k = 0; k < 3; k++) {
                        Due.due("the first ROW's " + k + " behind " + call, x.element(0, k), 10 + k);
                    }
                }
            }
        }
        PointAtWhoIsLost x = new PointAtWhoIsLost();
        x.row(0, 3, 40);
        x.row(1, 3, 40);
        x.set(0, 0, 1);
        x.set(0, 39, 40);
        Due.accepted(x, "all of 40", 40, () -> x.copy(0, 1, 0, 0, 40));
        Due.due("the first", x.element(1, 0), 1);
        Due.due("the last", x.element(1, 39), 40);
        Due.refused(x, "one more than 40", BAD, () -> x.copy(0, 1, 0, 0, 41));
        Due.accepted(x, "the first to the last place", 1, () -> x.copy(0, 1, 0, 39, 1));
        Due.due("the last", x.element(1, 39), 1);
    }

    private static void copyOfNone() {
        PointAtWhoIsLost x = new PointAtWhoIsLost();
        Due.ints(x, 0, 10, 11);
        x.row(1, 2, 0);
        Due.accepted(x, "none of none", 0, () -> x.copy(1, 1, 0, 0, 0));
        Due.accepted(x, "none to none", 0, () -> x.copy(0, 1, 0, 0, 0));
        Due.accepted(x, "none of none to the end", 0, () -> x.copy(1, 0, 0, 2, 0));
        Due.accepted(x, "none at both ends", 0, () -> x.copy(0, 0, 2, 2, 0));
        Due.refused(x, "none behind the end", BAD, () -> x.copy(1, 0, 1, 0, 0));
        Due.refused(x, "none to behind the end", BAD, () -> x.copy(0, 0, 0, 3, 0));
        Due.due("the first is as it was", x.element(0, 0), 10);
        Due.due("the second is as it was", x.element(0, 1), 11);
    }

    private static void copyAsTheyWere() {
        for (int i = 0; i < 5; i++) {
            for (int j = 0; j < 5; j++) {
                int n = 5 - Math.max(i, j);
                PointAtWhoIsLost x = new PointAtWhoIsLost();
                Due.ints(x, 2, 10, 11, 12, 13, 14);
                Due.due("copy onto itself", x.copy(2, 2, i, j, n), n);
                for (int k = 0; k < 5; k++) {
                    boolean comes = k >= j && k < j + n;
                    Due.due(k + " behind copy(2, 2, " + i + ", " + j + ", " + n + ")", x.element(2, k), comes ? 10 + i + k - j : 10 + k);
                }
            }
        }
    }

    private static void copyOfEachSort() {
        for (int from = 0; from <= 4; from++) {
            for (int to = 0; to <= 4; to++) {
                PointAtWhoIsLost x = new PointAtWhoIsLost();
                x.row(0, from, 1);
                x.row(1, to, 1);
                x.set(0, 0, 1);
                if (from == to) {
                    Due.accepted(x, "copy of SORT " + from, 1, () -> x.copy(0, 1, 0, 0, 1));
                    Due.due("what came", x.element(1, 0), 1);
                } else {
                    Due.refused(x, "copy of SORT " + from + " to " + to, -3, () -> x.copy(0, 1, 0, 0, 1));
                    Due.refused(x, "copy of none of SORT " + from + " to " + to, -3, () -> x.copy(0, 1, 0, 0, 0));
                    Due.due("what was", x.element(1, 0), 0);
                }
            }
            PointAtWhoIsLost x = new PointAtWhoIsLost();
            x.row(0, from, 1);
            Due.refused(x, "copy of SORT " + from + " to NOTHING", -4, () -> x.copy(0, 1, 0, 0, 1));
            Due.refused(x, "copy of NOTHING to SORT " + from, -4, () -> x.copy(1, 0, 0, 0, 1));
            Due.refused(x, "copy of NOTHING to NOTHING", -4, () -> x.copy(1, 2, 0, 0, 0));
        }
    }

    private static void elementOfNothingIs0() {
        PointAtWhoIsLost x = Due.of("post 0 7 0");
        Due.ints(x, 0, 5, 6);
        Due.ints(x, 1, 7, 8);
        x.show(1, 0);
        int[] none = {-1, 2, 3, 39, 40, 41, Integer.MAX_VALUE, Integer.MIN_VALUE};
        for (int i : none) {
            Due.accepted(x, "element(0, " + i + ")", 0, () -> x.element(0, i));
        }
        int[] shelves = {-1, 1, 2, 7, 8, Integer.MAX_VALUE, Integer.MIN_VALUE};
        for (int s : shelves) {
            Due.accepted(x, "element(" + s + ", 0)", 0, () -> x.element(s, 0));
        }
        Due.accepted(x, "element(0, 0)", 5, () -> x.element(0, 0));
        Due.accepted(x, "element(0, 1)", 6, () -> x.element(0, 1));
        x.show(1, -1);
        Due.due("element of what was a ROW once", x.element(1, 0), 0);
    }

    private static void holdsAPostByItsNumber() {
        PointAtWhoIsLost x = new PointAtWhoIsLost();
        for (int post = 0; post < 8; post++) {
            int number = post;
            Due.refused(x, "show of no POST " + post, BAD, () -> x.show(7 - number, number));
            x.post(post % 6, 0, 0);
            Due.accepted(x, "show of POST " + post, 1, () -> x.show(7 - number, number));
            Due.accepted(x, "holds(" + (7 - post) + ")", 10 + post, () -> x.holds(7 - number));
            Due.due("SHELVES that hold something", x.status(8), post + 1);
        }
        Due.refused(x, "show of no POST 8", BAD, () -> x.show(0, 8));
        Due.refused(x, "show of no POST -2", BAD, () -> x.show(0, -2));
        Due.due("holds(0)", x.holds(0), 17);
        Due.accepted(x, "one POST in two SHELVES", 1, () -> x.show(0, 0));
        Due.due("holds(0)", x.holds(0), 10);
        Due.due("holds(7)", x.holds(7), 10);
    }

    private static void showNoneIsNothing() {
        PointAtWhoIsLost x = Due.of("post 0 0 0");
        Due.ints(x, 0, 4);
        x.show(1, 0);
        for (int s = 0; s < 3; s++) {
            int shelf = s;
            Due.accepted(x, "show(" + s + ", NONE)", 1, () -> x.show(shelf, -1));
            Due.accepted(x, "holds(" + s + ")", -1, () -> x.holds(shelf));
            Due.refused(x, "set behind it", -4, () -> x.set(shelf, 0, 1));
            Due.refused(x, "says behind it", -4, () -> x.says(shelf, 0));
        }
        Due.due("SHELVES that hold something", x.status(8), 0);
    }

    private static void saysA() {
        for (int a = 0; a <= 9; a++) {
            PointAtWhoIsLost x = new PointAtWhoIsLost();
            for (int kind = 0; kind < 6; kind++) {
                x.post(kind, a, 22);
                x.show(0, kind);
                Due.accepted(x, "KIND " + kind + " taken for a POST says a", a, () -> x.says(0, 0));
            }
        }
    }

    /** Of each KIND, the one of its own KIND and those above it but POST; the LOST one is right of it. */
    private static void saysArmByItsOwnKind() {
        int[][] says = {
            // taken for 1, 2, 3, 4, 5; -3: it is no such KIND
            {-3, -3, -3, -3, -3}, {2, -3, -3, -3, -3}, {-3, 2, -3, -3, -3}, {3, -3, 3, -3, -3}, {-3, 6, -3, 6, -3}, {-3, -3, -3, -3, 2}};
        for (int kind = 0; kind < 6; kind++) {
            PointAtWhoIsLost x = Due.of("post " + kind + " 2 22;walker 24 0");
            x.show(0, 0);
            for (int as = 1; as < 6; as++) {
                int k = as;
                String call = "KIND " + kind + " taken for " + as;
                if (says[kind][as - 1] == -3) {
                    Due.refused(x, call, -3, () -> x.says(0, k));
                } else {
                    Due.accepted(x, call, says[kind][as - 1], () -> x.says(0, k));
                }
            }
            Due.accepted(x, "KIND " + kind + " taken for a POST", 2, () -> x.says(0, 0));
            Due.refused(x, "taken for KIND 6", BAD, () -> x.says(0, 6));
            Due.refused(x, "taken for KIND -1", BAD, () -> x.says(0, -1));
        }
    }

    private static void saysItTrembles() {
        for (int kind = 1; kind < 6; kind++) {
            int k = kind;
            PointAtWhoIsLost x = Due.of("post " + kind + " 1 22;walker 24 5");
            x.show(0, 0);
            Due.accepted(x, "nobody LOST: KIND " + kind, -1, () -> x.says(0, k));
            x.sure(0, 4);
            int[] far = {0, 2, -1, 3, -1, 2};
            Due.accepted(x, "one LOST, 2 STEPS away: KIND " + kind, far[kind], () -> x.says(0, k));
            x.walker(20, 0);
            int[] two = {0, 2, -1, 3, -1, 8};
            Due.accepted(x, "two LOST: KIND " + kind, two[kind], () -> x.says(0, k));
        }
    }
}
