/** What the tests share: a count of answers that are not the ones that are due. */
final class Due {
    private static int wrong = 0;
    private static int calls = 0;

    private Due() {
    }

    static void due(String call, long got, long want) {
        calls++;
        if (got != want) {
            wrong++;
            System.out.println(call + " answered " + got + ", due is " + want);
        }
    }

    static void same(String what, String got, String want) {
        calls++;
        if (!got.equals(want)) {
            wrong++;
            System.out.println(what + " is\n " + got + "\ndue is\n " + want);
        }
    }

    /** Due is a refusal, counted once under its own number and under no other. */
    interface Call {
        long answer();
    }

    static void refused(PointAtWhoIsLost x, String call, int want, Call by) {
        int[] ahead = refusals(x);
        due(call, by.answer(), want);
        int[] behind = refusals(x);
        for (int i = 0; i < 5; i++) {
            due("status(" + (12 + i) + ") behind " + call, behind[i], ahead[i] + (want == -2 - i ? 1 : 0));
        }
    }

    /** Due is an answer, and that nothing was counted as a refusal. */
    static void accepted(PointAtWhoIsLost x, String call, long want, Call by) {
        int[] ahead = refusals(x);
        due(call, by.answer(), want);
        int[] behind = refusals(x);
        for (int i = 0; i < 5; i++) {
            due("status(" + (12 + i) + ") behind " + call, behind[i], ahead[i]);
        }
    }

    private static int[] refusals(PointAtWhoIsLost x) {
        int[] counts = new int[5];
        for (int i = 0; i < 5; i++) {
            counts[i] = x.status(12 + i);
        }
        return counts;
    }

    static int feed(PointAtWhoIsLost x, String text) {
        int size = x.status(6);
        for (int i = 0; i < text.length(); i++) {
            size = x.feed(text.charAt(i));
        }
        return size;
    }

    static int fen(PointAtWhoIsLost x, String text) {
        feed(x, text);
        return x.fen();
    }

    static PointAtWhoIsLost of(String text) {
        PointAtWhoIsLost x = new PointAtWhoIsLost();
        due("fen of " + text, fen(x, text) > 0 ? 1 : 0, 1);
        return x;
    }

    /** SHELF s holds a ROW of ints with these elements. */
    static void ints(PointAtWhoIsLost x, int s, long... elements) {
        x.row(s, 2, elements.length);
        for (int i = 0; i < elements.length; i++) {
            x.set(s, i, elements[i]);
        }
    }

    static void end() {
        System.out.println(wrong == 0 ? calls + " answers are as due" : wrong + " answers are not as due");
        if (wrong != 0) {
            System.exit(1);
        }
    }
}
