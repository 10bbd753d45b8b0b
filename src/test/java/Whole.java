/** All that can be asked of an object, as one text: what a call that changes nothing leaves as it was. */
final class Whole {
    /** How many places of each ROW are looked at: one behind the longest ROW of the tests that use this. */
    private static final int PLACES = 6;

    private Whole() {
    }

    static String of(PointAtWhoIsLost x) {
        StringBuilder text = new StringBuilder("status");
        for (int what = 0; what <= 8; what++) {
            text.append(' ').append(x.status(what));
        }
        fen(x, text);
        for (int s = 0; s < 8; s++) {
            int holds = x.holds(s);
            text.append("; SHELF ").append(holds);
            for (int i = 0; i < PLACES && holds >= 0 && holds < 10; i++) {
                text.append(' ').append(x.element(s, i));
            }
        }
        return text.toString();
    }

    private static void fen(PointAtWhoIsLost x, StringBuilder text) {
        int side = x.status(1);
        text.append("; BOG");
        for (int place = 0; place < side * side; place++) {
            int cell = 10 * (place / side) + place % side;
            text.append(x.isBog(cell) == 0 ? "" : " " + cell);
        }
        for (int post = 0; post < x.status(0); post++) {
            text.append("; POST ").append(x.postOf(post, 0)).append(' ').append(x.postOf(post, 1)).append(' ').append(x.postOf(post, 2));
        }
        for (int walker = 0; walker < x.status(3); walker++) {
            text.append("; WALKER ").append(x.walkerOf(walker, 0)).append(' ').append(x.walkerOf(walker, 1));
        }
    }

    /** That, and what stands on THE TAPE and in the image. The object is used up by it. */
    static String laidOpen(PointAtWhoIsLost x) {
        return of(x) + "\n fen() " + x.fen() + ": " + of(x) + "\n back() " + x.back() + ": " + of(x);
    }
}
