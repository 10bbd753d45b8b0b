/** Promises 1 to 8: a new object, ROWS, and what SHELVES hold. */
public final class ShelvesTest {
    public static void main(String[] args) {
        newObject();
        row();
        set();
        copy();
        element();
        holdsAndShow();
        says();
        Due.end();
    }

    private static void newObject() {
        PointAtWhoIsLost x = new PointAtWhoIsLost();
        int[] want = {0, 5, 0, 0, 0, 0, 0, 1, 0};
        for (int what = 0; what < want.length; what++) {
            Due.due("new: status(" + what + ")", x.status(what), want[what]);
        }
        for (int what = 12; what <= 16; what++) {
            Due.due("new: status(" + what + ")", x.status(what), 0);
        }
        for (int s = 0; s < 8; s++) {
            Due.due("new: holds(" + s + ")", x.holds(s), -1);
        }
        Due.due("new: reach(0, 70)", x.reach(0, 70), 25);
        Due.due("new: back()", x.back(), -5);
        Due.due("NONE", PointAtWhoIsLost.NONE, -1);
    }

    private static void row() {
        PointAtWhoIsLost x = new PointAtWhoIsLost();
        Due.accepted(x, "row(0, 0, 0)", 1, () -> x.row(0, 0, 0));
        Due.accepted(x, "row(7, 4, 40)", 1, () -> x.row(7, 4, 40));
        Due.due("holds(7)", x.holds(7), 4);
        Due.due("set(7, 39, 1)", x.set(7, 39, 1), 1);
        Due.refused(x, "row(-1, 0, 0)", -2, () -> x.row(-1, 0, 0));
        Due.refused(x, "row(8, 0, 0)", -2, () -> x.row(8, 0, 0));
        Due.refused(x, "row(7, -1, 0)", -2, () -> x.row(7, -1, 0));
        Due.refused(x, "row(7, 5, 0)", -2, () -> x.row(7, 5, 0));
        Due.refused(x, "row(7, 0, -1)", -2, () -> x.row(7, 0, -1));
        Due.refused(x, "row(7, 0, 41)", -2, () -> x.row(7, 0, 41));
        Due.due("element(7, 39) behind refusals", x.element(7, 39), 1);
        Due.due("row(7, 3, 40) anew", x.row(7, 3, 40), 1);
        Due.due("element(7, 39) anew", x.element(7, 39), 0);
        x.set(7, 0, 5);
        x.row(7, 3, 40);
        Due.due("element(7, 0) anew", x.element(7, 0), 0);
        x.post(0, 0, 0);
        x.show(1, 0);
        Due.due("row(1, 1, 2) over a POST", x.row(1, 1, 2), 1);
        Due.due("holds(1)", x.holds(1), 1);
    }

    private static void set() {
        PointAtWhoIsLost x = new PointAtWhoIsLost();
        long big = 0x123456789ABCDEF0L;
        long[] kept = {(byte) 0xF0, (short) 0xDEF0, 0x9ABCDEF0, big, 1};
        for (int sort = 0; sort < 5; sort++) {
            x.row(sort, sort, 2);
            Due.due("set of sort " + sort, x.set(sort, 1, big), 1);
            Due.due("element of sort " + sort, x.element(sort, 1), kept[sort]);
            Due.due("the other element of sort " + sort, x.element(sort, 0), 0);
        }
        Due.due("set(0, 0, 128)", x.set(0, 0, 128), 1);
        Due.due("byte of 128", x.element(0, 0), -128);
        Due.due("set(1, 0, 32768)", x.set(1, 0, 32768), 1);
        Due.due("short of 32768", x.element(1, 0), -32768);
        Due.due("set(4, 0, 256)", x.set(4, 0, 256), 1);
        Due.due("boolean of 256", x.element(4, 0), 1);
        x.set(4, 0, Long.MIN_VALUE);
        Due.due("boolean of the least long", x.element(4, 0), 1);
        x.set(4, 0, 0);
        Due.due("boolean of 0", x.element(4, 0), 0);
        x.post(0, 0, 0);
        x.show(5, 0);
        Due.refused(x, "set(-1, ..)", -2, () -> x.set(-1, 0, 1));
        Due.refused(x, "set(8, ..)", -2, () -> x.set(8, 0, 1));
        Due.refused(x, "set of a POST, bad i", -3, () -> x.set(5, -1, 1));
        Due.refused(x, "set of NOTHING, bad i", -4, () -> x.set(6, -1, 1));
        Due.refused(x, "set(0, -1, 1)", -2, () -> x.set(0, -1, 1));
        Due.refused(x, "set(0, 2, 1)", -2, () -> x.set(0, 2, 1));
        Due.due("element behind refusals", x.element(0, 1), -16);
    }

    private static void copy() {
        PointAtWhoIsLost x = new PointAtWhoIsLost();
        Due.ints(x, 0, 1, 2, 3, 4, 5);
        Due.ints(x, 1, 9, 9, 9);
        Due.accepted(x, "copy(0, 1, 3, 0, 2)", 2, () -> x.copy(0, 1, 3, 0, 2));
        long[] want = {4, 5, 9};
        for (int i = 0; i < 3; i++) {
            Due.due("copied " + i, x.element(1, i), want[i]);
        }
        Due.due("copy onto itself, on", x.copy(0, 0, 0, 1, 4), 4);
        long[] on = {1, 1, 2, 3, 4};
        for (int i = 0; i < 5; i++) {
            Due.due("on " + i, x.element(0, i), on[i]);
        }
        Due.due("copy onto itself, back", x.copy(0, 0, 1, 0, 4), 4);
        long[] back = {1, 2, 3, 4, 4};
        for (int i = 0; i < 5; i++) {
            Due.due("back " + i, x.element(0, i), back[i]);
        }
        Due.accepted(x, "copy of none at the ends", 0, () -> x.copy(0, 1, 5, 3, 0));
        x.row(2, 3, 5);
        x.post(0, 0, 0);
        x.show(3, 0);
        int most = Integer.MAX_VALUE;
        Due.refused(x, "copy from no SHELF", -2, () -> x.copy(8, 3, 0, 0, 1));
        Due.refused(x, "copy to no SHELF", -2, () -> x.copy(3, -1, 0, 0, 1));
        Due.refused(x, "copy to a POST", -3, () -> x.copy(0, 3, -1, 0, 1));
        Due.refused(x, "copy from a POST to NOTHING", -3, () -> x.copy(3, 4, 0, 0, 1));
        Due.refused(x, "copy from NOTHING to a POST", -3, () -> x.copy(4, 3, 0, 0, 1));
        Due.refused(x, "copy of two SORTS", -3, () -> x.copy(0, 2, -1, 0, 1));
        Due.refused(x, "copy from NOTHING", -4, () -> x.copy(4, 0, -1, 0, 1));
        Due.refused(x, "copy to NOTHING", -4, () -> x.copy(0, 4, -1, 0, 1));
        Due.refused(x, "copy from -1", -2, () -> x.copy(0, 1, -1, 0, 1));
        Due.refused(x, "copy to -1", -2, () -> x.copy(0, 1, 0, -1, 1));
        Due.refused(x, "copy of -1", -2, () -> x.copy(0, 1, 0, 0, -1));
        Due.refused(x, "copy too much from", -2, () -> x.copy(0, 1, 4, 0, 2));
        Due.refused(x, "copy too much to", -2, () -> x.copy(0, 1, 0, 2, 2));
        Due.refused(x, "copy of none behind the end", -2, () -> x.copy(0, 1, 6, 0, 0));
        Due.refused(x, "copy of most", -2, () -> x.copy(0, 1, 1, 1, most));
        Due.refused(x, "copy from most", -2, () -> x.copy(0, 1, most, 0, 1));
        for (int i = 0; i < 3; i++) {
            Due.due("behind refusals " + i, x.element(1, i), want[i]);
        }
    }

    private static void element() {
        PointAtWhoIsLost x = new PointAtWhoIsLost();
        x.row(0, 3, 2);
        x.set(0, 1, -7);
        x.post(0, 5, 0);
        x.show(1, 0);
        Due.accepted(x, "element(0, 1)", -7, () -> x.element(0, 1));
        Due.accepted(x, "element(0, 2)", 0, () -> x.element(0, 2));
        Due.accepted(x, "element(0, -1)", 0, () -> x.element(0, -1));
        Due.accepted(x, "element of a POST", 0, () -> x.element(1, 0));
        Due.accepted(x, "element of NOTHING", 0, () -> x.element(2, 0));
        Due.accepted(x, "element(-1, 0)", 0, () -> x.element(-1, 0));
        Due.accepted(x, "element(8, 0)", 0, () -> x.element(8, 0));
    }

    private static void holdsAndShow() {
        PointAtWhoIsLost x = Due.of("post 0 1 0; post 5 2 11");
        for (int sort = 0; sort < 5; sort++) {
            x.row(0, sort, 1);
            Due.due("holds sort " + sort, x.holds(0), sort);
        }
        Due.accepted(x, "show(0, 1)", 1, () -> x.show(0, 1));
        Due.due("holds(0)", x.holds(0), 11);
        Due.due("element of what was a ROW", x.element(0, 0), 0);
        Due.refused(x, "show(0, 2)", -2, () -> x.show(0, 2));
        Due.refused(x, "show(0, -2)", -2, () -> x.show(0, -2));
        Due.refused(x, "show(8, 0)", -2, () -> x.show(8, 0));
        Due.refused(x, "show(-1, NONE)", -2, () -> x.show(-1, -1));
        Due.due("holds(0) behind refusals", x.holds(0), 11);
        Due.due("show(0, 0)", x.show(0, 0), 1);
        Due.due("holds(0)", x.holds(0), 10);
        Due.due("status(8)", x.status(8), 1);
        Due.accepted(x, "show(0, NONE)", 1, () -> x.show(0, -1));
        Due.accepted(x, "holds(0) NOTHING", -1, () -> x.holds(0));
        Due.accepted(x, "holds(-1)", -1, () -> x.holds(-1));
        Due.accepted(x, "holds(8)", -1, () -> x.holds(8));
        Due.due("status(8)", x.status(8), 0);
    }

    private static void says() {
        PointAtWhoIsLost x = Due.of("post 0 3 22; post 1 4 22; post 2 5 22; post 3 6 22; post 4 7 22; post 5 8 22");
        for (int post = 0; post < 6; post++) {
            x.show(post, post);
        }
        for (int post = 0; post < 6; post++) {
            int s = post;
            Due.accepted(x, "says a of " + post, 3 + post, () -> x.says(s, 0));
        }
        Due.accepted(x, "KEEN says it trembles", -1, () -> x.says(1, 1));
        x.walker(2, 0);
        int[] own = {-1, 0, 0, 1, 4, 0};
        int[][] under = {{0}, {0, 1}, {0, 2}, {0, 1, 3}, {0, 2, 4}, {0, 5}};
        saysOfEach(x, own, under);
        sayRefusals();
    }

    private static void saysOfEach(PointAtWhoIsLost x, int[] own, int[][] under) {
        for (int post = 0; post < 6; post++) {
            for (int kind = 0; kind < 6; kind++) {
                int s = post;
                int as = kind;
                boolean is = false;
                for (int k : under[post]) {
                    is |= k == kind;
                }
                if (!is) {
                    Due.due("says(" + s + ", " + as + ")", x.says(s, as), -3);
                } else if (kind != 0) {
                    Due.due("says(" + s + ", " + as + ")", x.says(s, as), own[post]);
                }
            }
        }
        Due.due("OTHER", x.status(13), 36 - 13);
    }

    private static void sayRefusals() {
        PointAtWhoIsLost x = new PointAtWhoIsLost();
        x.row(6, 0, 1);
        Due.refused(x, "says of no SHELF", -2, () -> x.says(8, 0));
        Due.refused(x, "says of no SHELF", -2, () -> x.says(-1, 0));
        Due.refused(x, "says kind 6 of NOTHING", -2, () -> x.says(7, 6));
        Due.refused(x, "says kind -1 of a ROW", -2, () -> x.says(6, -1));
        Due.refused(x, "says of a ROW", -3, () -> x.says(6, 0));
        Due.refused(x, "says of NOTHING", -4, () -> x.says(7, 0));
    }
}
