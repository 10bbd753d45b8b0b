import java.math.BigInteger;

/** The edges of steps in truth, DAYS, DRAWS, images and status (promises 47 to 52): on them, just within, just beyond. */
public final class EdgesOfTruthTest {
    private static final int BAD = -2;
    private static final int STUCK = -5;
    private static final int[] ON = {0, -10, 10, -1, 1};

    public static void main(String[] args) {
        commandsAre0To4();
        offTheFenOfEachSide();
        intoBog();
        sureBecomesOneLess();
        sureAtHome();
        seedIsAnyInt();
        drawsOfManySeeds();
        daysAre1To60();
        daysAreDayByDay();
        heStaysIfHeCant();
        whoIsntLostGoesHome();
        whoIsntLostDrawsNothing();
        lostOnesFirstThenTheOthers();
        atHomeHeIsFound();
        backToNothing();
        imageOfImage();
        imageKeepsAll();
        backLeavesTheRest();
        shelvesWithPosts();
        statusOfEach();
        statusCounts();
        Due.end();
    }

    private static void commandsAre0To4() {
        int[] to = {22, 12, 32, 21, 23};
        for (int command = -2; command <= 6; command++) {
            PointAtWhoIsLost x = Due.of("walker 22 7");
            int c = command;
            if (command >= 0 && command <= 4) {
                Due.accepted(x, "goes(0, " + c + ")", to[c], () -> x.goes(0, c));
                Due.due("his CELL", x.walkerOf(0, 0), to[c]);
            } else {
                Due.refused(x, "goes(0, " + c + ")", BAD, () -> x.goes(0, c));
                Due.due("his CELL", x.walkerOf(0, 0), 22);
            }
        }
        PointAtWhoIsLost none = new PointAtWhoIsLost();
        Due.refused(none, "goes, no WALKERS", BAD, () -> none.goes(0, 0));
    }

    private static void offTheFenOfEachSide() {
        for (int side = 5; side <= 7; side++) {
            for (int cell = 1; cell <= 11 * (side - 1); cell++) {
                for (int command = 0; command <= 4 && cell % 10 < side; command++) {
                    PointAtWhoIsLost x = new PointAtWhoIsLost();
                    x.side(side);
                    x.walker(cell, 6);
                    int to = cell + ON[command];
                    boolean can = to >= 0 && to / 10 < side && to % 10 < side && !(cell % 10 == 0 && command == 3);
                    Due.due("SIDE " + side + ": from " + cell + " by " + command, x.goes(0, command), can ? to : STUCK);
                    Due.due("his CELL", x.walkerOf(0, 0), can ? to : cell);
                    Due.due("STUCK", x.status(15), can ? 0 : 1);
                }
            }
        }
    }

    private static void intoBog() {
        PointAtWhoIsLost x = Due.of("bog 12;bog 32;bog 21;bog 23;walker 22 3");
        for (int command = 1; command <= 4; command++) {
            int c = command;
            Due.refused(x, "goes(0, " + c + ")", STUCK, () -> x.goes(0, c));
        }
        Due.accepted(x, "he may stay", 22, () -> x.goes(0, 0));
        Due.due("as SURE as he was", x.walkerOf(0, 1), 3);
        for (int command = 1; command <= 4; command++) {
            int c = command;
            x.bog(22 + ON[c], false);
            Due.accepted(x, "goes(0, " + c + ")", 22 + ON[c], () -> x.goes(0, c));
            Due.accepted(x, "and back", 22, () -> x.goes(0, c == 1 ? 2 : c == 2 ? 1 : c == 3 ? 4 : 3));
        }
    }

    private static void sureBecomesOneLess() {
        for (int sure = 0; sure <= 9; sure++) {
            for (int command = 0; command <= 4; command++) {
                PointAtWhoIsLost x = Due.of("walker 22 " + sure + ";walker 33 4");
                int c = command;
                Due.accepted(x, "SURE " + sure + ": goes(0, " + c + ")", 22 + ON[c], () -> x.goes(0, c));
                int want = command == 0 || sure == 0 || sure > 4 ? sure : sure - 1;
                Due.due("SURE " + sure + " behind " + c, x.walkerOf(0, 1), want);
                Due.due("the other's", x.walkerOf(1, 1), 4);
            }
            PointAtWhoIsLost x = Due.of("walker 0 " + sure + ";home 44");
            x.goes(0, 1);
            Due.due("SURE of who is STUCK", x.walkerOf(0, 1), sure);
        }
    }

    private static void sureAtHome() {
        for (int sure = 0; sure <= 9; sure++) {
            for (int command = 0; command <= 4; command++) {
                PointAtWhoIsLost x = new PointAtWhoIsLost();
                x.home(22);
                x.walker(22 - ON[command], sure);
                Due.due("SURE told", x.walkerOf(0, 1), sure);
                int c = command;
                Due.accepted(x, "to HOME by " + c, 22, () -> x.goes(0, c));
                Due.due("SURE " + sure + " at HOME by " + c, x.walkerOf(0, 1), 9);
                Due.due("how many are LOST", x.status(4), 0);
            }
        }
    }

    private static void seedIsAnyInt() {
        PointAtWhoIsLost x = new PointAtWhoIsLost();
        int[] seeds = {0, -1, 1, Integer.MAX_VALUE, Integer.MIN_VALUE, 65535, 65536, -65536, 12345};
        int ahead = 1;
        for (int v : seeds) {
            int due = ahead;
            Due.accepted(x, "seed(" + v + ")", due, () -> x.seed(v));
            Due.accepted(x, "status(7)", v, () -> x.status(7));
            ahead = v;
        }
    }

    /** SEED times 1103515245 and 12345, an int, without any int's wrapping. */
    private static int next(int seed) {
        return BigInteger.valueOf(seed).multiply(BigInteger.valueOf(1103515245)).add(BigInteger.valueOf(12345)).intValue();
    }

    private static int drawn(int seed) {
        BigInteger bits = BigInteger.valueOf(seed).mod(BigInteger.ONE.shiftLeft(32));
        return bits.shiftRight(16).mod(BigInteger.valueOf(5)).intValue();
    }

    private static int seedFor(int command) {
        int seed = 1;
        while (drawn(next(seed)) != command) {
            seed++;
        }
        return seed;
    }

    private static void drawsOfManySeeds() {
        int[] edges = {0, 1, -1, Integer.MAX_VALUE, Integer.MIN_VALUE, 65535, 65536, -65536};
        int negative = 0;
        for (int i = 0; i < 200; i++) {
            int seed = i < edges.length ? edges[i] : 1000003 * i * (i % 2 == 0 ? 1 : -1);
            PointAtWhoIsLost x = Due.of("side 7;walker 33 2");
            x.seed(seed);
            Due.due("SEED " + seed + ": days(1)", x.days(1), 0);
            Due.due("SEED behind " + seed, x.status(7), next(seed));
            Due.due("SEED " + seed + ": his CELL", x.walkerOf(0, 0), 33 + ON[drawn(next(seed))]);
            Due.due("SEED " + seed + ": his SURE", x.walkerOf(0, 1), drawn(next(seed)) == 0 ? 2 : 1);
            negative += next(seed) < 0 ? 1 : 0;
        }
        Due.due("some have no sign and some would have one", negative > 50 && negative < 150 ? 1 : 0, 1);
        for (int command = 0; command <= 4; command++) {
            PointAtWhoIsLost x = Due.of("side 7;walker 33 2");
            x.seed(seedFor(command));
            x.days(1);
            Due.due("a DRAW of " + command, x.walkerOf(0, 0), 33 + ON[command]);
        }
    }

    private static void daysAre1To60() {
        for (int n = -2; n <= 62; n++) {
            PointAtWhoIsLost x = Due.of("walker 44 0;walker 33 5;bog 1;bog 10");
            int many = n;
            if (n >= 1 && n <= 60) {
                Due.accepted(x, "days(" + n + ")", 1, () -> x.days(many));
                int seed = 1;
                for (int day = 0; day < n; day++) {
                    seed = next(seed);
                }
                Due.due("SEED behind " + n + " days", x.status(7), seed);
            } else {
                Due.refused(x, "days(" + n + ")", BAD, () -> x.days(many));
                Due.due("SEED", x.status(7), 1);
            }
        }
        PointAtWhoIsLost none = new PointAtWhoIsLost();
        Due.accepted(none, "days(1), no WALKERS", 0, () -> none.days(1));
        Due.accepted(none, "days(60), no WALKERS", 0, () -> none.days(60));
        Due.refused(none, "days(61), no WALKERS", BAD, () -> none.days(61));
        Due.refused(none, "days(0), no WALKERS", BAD, () -> none.days(0));
    }

    private static void daysAreDayByDay() {
        String fen = "side 7;bog 12;bog 33;bog 45;home 3;walker 0 0;walker 66 4;walker 60 2;walker 6 7";
        PointAtWhoIsLost at = Due.of(fen);
        PointAtWhoIsLost by = Due.of(fen);
        int last = 0;
        for (int day = 0; day < 60; day++) {
            last = by.days(1);
        }
        Due.due("days(60)", at.days(60), last);
        Due.same("60 days at once", Whole.of(at), Whole.of(by));
    }

    /** Each DRAW, in each corner and in the middle, with BOG above and left of the middle. */
    private static void heStaysIfHeCant() {
        int[] cells = {0, 4, 40, 44, 22};
        int[][] to = {
            {0, 0, 10, 0, 1}, {4, 4, 14, 3, 4}, {40, 30, 40, 40, 41}, {44, 34, 44, 43, 44}, {22, 22, 32, 22, 23}};
        for (int i = 0; i < cells.length; i++) {
            for (int command = 0; command <= 4; command++) {
                PointAtWhoIsLost x = Due.of("home 2;bog 12;bog 21;walker " + cells[i] + " 3");
                int seed = seedFor(command);
                x.seed(seed);
                Due.due("days(1)", x.days(1), 0);
                String of = "from " + cells[i] + " by a DRAW of " + command;
                Due.due("his CELL " + of, x.walkerOf(0, 0), to[i][command]);
                Due.due("his SURE " + of, x.walkerOf(0, 1), to[i][command] == cells[i] ? 3 : 2);
                Due.due("SEED " + of, x.status(7), next(seed));
            }
        }
        for (int command = 1; command <= 4; command++) {
            PointAtWhoIsLost x = Due.of("walker 22 0");
            x.seed(seedFor(command));
            x.days(1);
            Due.due("SURE is 0 at least", x.walkerOf(0, 1), 0);
            Due.due("he went", x.walkerOf(0, 0), 22 + ON[command]);
        }
    }

    private static void goesHome(String fen, int to, int sure, int found) {
        PointAtWhoIsLost x = Due.of(fen);
        Due.accepted(x, fen + ": days(1)", found, () -> x.days(1));
        Due.due(fen + ": his CELL", x.walkerOf(0, 0), to);
        Due.due(fen + ": his SURE", x.walkerOf(0, 1), sure);
    }

    private static void whoIsntLostGoesHome() {
        goesHome("walker 44 5", 34, 5, 1);
        goesHome("walker 4 8", 3, 8, 1);
        goesHome("walker 40 6", 30, 6, 1);
        goesHome("home 44;walker 0 6", 10, 6, 1);
        goesHome("home 44;walker 4 6", 14, 6, 1);
        goesHome("home 4;walker 40 6", 30, 6, 1);
        goesHome("home 40;walker 4 6", 14, 6, 1);
        goesHome("home 4;walker 0 6", 1, 6, 1);
        goesHome("home 42;bog 12;bog 22;bog 32;walker 2 6", 1, 6, 1);
        goesHome("home 42;bog 12;bog 22;bog 32;bog 1;walker 2 6", 3, 6, 1);
        goesHome("bog 34;walker 44 5", 43, 5, 1);
        goesHome("walker 1 5", 0, 9, 1);
        goesHome("walker 10 7", 0, 9, 1);
        goesHome("walker 0 9", 0, 9, 1);
        goesHome("bog 1;bog 10;walker 11 5", 11, 5, 1);
        goesHome("bog 1;bog 10;walker 44 9", 44, 9, 1);
        goesHome("walker 2 5", 1, 5, 1);
        PointAtWhoIsLost x = Due.of("walker 44 5");
        Due.due("seven days", x.days(7), 1);
        Due.due("he is not there yet", x.status(2) == x.walkerOf(0, 0) ? 1 : 0, 0);
        Due.due("as SURE as he was", x.walkerOf(0, 1), 5);
        Due.due("the eighth day", x.days(1), 1);
        Due.due("he is there", x.walkerOf(0, 0), 0);
        Due.due("SURE", x.walkerOf(0, 1), 9);
        Due.due("60 days on", x.days(60), 1);
        Due.due("he is there still", x.walkerOf(0, 0), 0);
    }

    private static void whoIsntLostDrawsNothing() {
        PointAtWhoIsLost x = Due.of("walker 44 5;walker 40 9;walker 4 7");
        Due.due("all go home", x.days(60), 3);
        Due.due("SEED", x.status(7), 1);
        x.walker(44, 4);
        x.bog(34, true);
        x.bog(43, true);
        Due.due("one is shut in", x.days(2), 3);
        Due.due("one DRAW a day", x.status(7), next(next(1)));
        PointAtWhoIsLost y = Due.of("bog 34;bog 43;walker 44 4;walker 44 0;walker 44 5;walker 44 0");
        Due.due("three are shut in", y.days(1), 1);
        Due.due("three DRAWS a day", y.status(7), next(next(next(1))));
    }

    private static void lostOnesFirstThenTheOthers() {
        // 1 is LOST and found by its own step HOME; then it stays, as the others go
        PointAtWhoIsLost x = Due.of("walker 22 6;walker 1 0;walker 33 9");
        x.seed(seedFor(3));
        Due.due("days(1)", x.days(1), 3);
        Due.due("who isn't LOST goes", x.walkerOf(0, 0), 12);
        Due.due("who was LOST is at HOME", x.walkerOf(1, 0), 0);
        Due.due("and SURE", x.walkerOf(1, 1), 9);
        Due.due("the third goes", x.walkerOf(2, 0), 23);
        PointAtWhoIsLost y = Due.of("walker 22 6;walker 1 0;walker 33 9");
        y.seed(seedFor(4));
        Due.due("days(1)", y.days(1), 2);
        Due.due("who is LOST goes no second time", y.walkerOf(1, 0), 2);
        PointAtWhoIsLost z = Due.of("side 7;walker 33 1;walker 33 1;walker 33 1;walker 33 1");
        z.seed(9);
        z.days(1);
        int seed = 9;
        for (int walker = 0; walker < 4; walker++) {
            seed = next(seed);
            Due.due("WALKER by WALKER, " + walker, z.walkerOf(walker, 0), 33 + ON[drawn(seed)]);
        }
        Due.due("SEED", z.status(7), seed);
    }

    private static void atHomeHeIsFound() {
        for (int command = 0; command <= 4; command++) {
            PointAtWhoIsLost shut = Due.of("bog 1;bog 10;walker 0 2");
            int seed = seedFor(command);
            shut.seed(seed);
            Due.due("LOST at HOME, shut in, by a DRAW of " + command, shut.days(1), 1);
            Due.due("SURE", shut.walkerOf(0, 1), 9);
            PointAtWhoIsLost x = Due.of("home 22;walker 22 2");
            x.seed(seed);
            Due.due("LOST at HOME by a DRAW of " + command, x.days(1), command == 0 ? 1 : 0);
            Due.due("SURE", x.walkerOf(0, 1), command == 0 ? 9 : 1);
            Due.due("his CELL", x.walkerOf(0, 0), 22 + ON[command]);
            PointAtWhoIsLost y = new PointAtWhoIsLost();
            y.home(22);
            y.walker(22 - ON[command], 2);
            y.seed(seed);
            Due.due("to HOME by a DRAW of " + command, y.days(1), 1);
            Due.due("his CELL", y.walkerOf(0, 0), 22);
            Due.due("SURE", y.walkerOf(0, 1), 9);
        }
    }

    private static void backToNothing() {
        PointAtWhoIsLost x = Due.of("side 6;bog 1;post 0 0 0;walker 22 3");
        String ahead = Whole.of(x);
        Due.refused(x, "back()", STUCK, () -> x.back());
        Due.refused(x, "back() again", STUCK, () -> x.back());
        Due.same("all there is", Whole.of(x), ahead);
        Due.accepted(x, "image()", 1, () -> x.image());
        Due.accepted(x, "back()", 1, () -> x.back());
        Due.same("all there is", Whole.of(x), ahead);
        PointAtWhoIsLost none = new PointAtWhoIsLost();
        Due.accepted(none, "image() of a new one", 1, () -> none.image());
        Due.fen(none, "side 7;bog 1;home 66;post 0 0 0;walker 22 3");
        none.seed(4);
        Due.accepted(none, "back() to a new one", 1, () -> none.back());
        Due.same("a new one", Whole.of(none), Whole.of(new PointAtWhoIsLost()));
    }

    private static void imageOfImage() {
        PointAtWhoIsLost x = new PointAtWhoIsLost();
        x.seed(10);
        x.image();
        x.seed(11);
        x.image();
        x.seed(12);
        Due.due("back()", x.back(), 1);
        Due.due("the later one", x.status(7), 11);
        x.seed(13);
        Due.due("back() again", x.back(), 1);
        Due.due("it is kept on", x.status(7), 11);
        x.seed(14);
        x.image();
        Due.due("back() to what is", x.back(), 1);
        Due.due("SEED", x.status(7), 14);
    }

    private static void imageKeepsAll() {
        String fen = "side 6;bog 11;bog 55;home 3;post 5 9 54;post 1 2 3;walker 44 3;walker 3 7";
        String[] changes = {"side 7", "bog 12", "dry 11", "home 4", "post 0 0 0", "walker 0 0",
            "side 7;bog 60;dry 55;home 65;post 1 1 1;post 2 2 2;walker 66 9"};
        for (String change : changes) {
            PointAtWhoIsLost x = Due.of(fen);
            x.seed(5);
            x.image();
            String ahead = Whole.of(x);
            Due.due("a change", Due.fen(x, change) > 0 ? 1 : 0, 1);
            Due.due("it is another fen", Whole.of(x).equals(ahead) ? 1 : 0, 0);
            Due.accepted(x, "back() from " + change, 1, () -> x.back());
            Due.same("all there is, back from " + change, Whole.of(x), ahead);
        }
        PointAtWhoIsLost x = Due.of(fen);
        x.image();
        String ahead = Whole.of(x);
        x.sure(0, 9);
        x.goes(1, 4);
        x.days(3);
        x.seed(-1);
        x.back();
        Due.same("back from steps in truth", Whole.of(x), ahead);
        x.days(5);
        int seed = x.status(7);
        x.back();
        x.days(5);
        Due.due("the same DAYS once more", x.status(7), seed);
        x.back();
        x.side(7);
        Due.due("the new CELLS are no BOG", x.status(5), 2);
    }

    private static void backLeavesTheRest() {
        PointAtWhoIsLost x = new PointAtWhoIsLost();
        Due.feed(x, "bog");
        Due.ints(x, 0, 1, 2);
        x.side(4);
        x.image();
        Due.feed(x, " 1");
        x.set(0, 0, 7);
        Due.ints(x, 1, 3);
        x.row(2, 4, 0);
        x.side(4);
        x.bog(0, true);
        Due.due("back()", x.back(), 1);
        Due.due("THE TAPE's size", x.status(6), 5);
        Due.due("a ROW's element", x.element(0, 0), 7);
        Due.due("the other one", x.element(0, 1), 2);
        Due.due("a later ROW", x.element(1, 0), 3);
        Due.due("a later ROW of none", x.holds(2), 4);
        Due.due("SHELVES that hold something", x.status(8), 3);
        Due.due("BAD", x.status(12), 2);
        Due.due("STUCK", x.status(15), 1);
        Due.due("what is on THE TAPE", x.fen(), 1);
        Due.due("BOG", x.isBog(1), 1);
    }

    /** SHELF s shows POST s; so many POSTS were kept. */
    private static void shelvesWithPosts() {
        for (int kept = 0; kept <= 8; kept++) {
            PointAtWhoIsLost x = new PointAtWhoIsLost();
            for (int post = 0; post < 8; post++) {
                if (post == kept) {
                    x.image();
                }
                x.post(post % 6, 9 - post, 0);
            }
            if (kept == 8) {
                x.image();
            }
            for (int s = 0; s < 8; s++) {
                x.show(s, s);
            }
            Due.due("SHELVES that hold something", x.status(8), 8);
            Due.due("back()", x.back(), 1);
            Due.due("POSTS", x.status(0), kept);
            for (int s = 0; s < 8; s++) {
                Due.due("holds(" + s + "), " + kept + " kept", x.holds(s), s < kept ? 10 + s : -1);
                Due.due("says(" + s + ", 0), " + kept + " kept", x.says(s, 0), s < kept ? 9 - s : -4);
            }
            Due.due("SHELVES that hold something", x.status(8), kept);
        }
        PointAtWhoIsLost x = Due.of("post 0 1 0");
        x.image();
        x.post(0, 2, 0);
        x.show(0, 1);
        x.back();
        x.post(0, 3, 0);
        Due.due("a later POST of that number is not shown", x.holds(0), -1);
        PointAtWhoIsLost y = Due.of("post 0 1 0;post 0 2 0");
        y.show(0, 1);
        y.image();
        y.show(0, 0);
        y.show(1, 1);
        y.back();
        Due.due("SHELVES are not kept", y.holds(0), 10);
        Due.due("SHELVES are not kept", y.holds(1), 11);
    }

    private static void statusOfEach() {
        PointAtWhoIsLost x = new PointAtWhoIsLost();
        int[] first = {0, 5, 0, 0, 0, 0, 0, 1, 0, -1, -1, -1, 0, 0, 0, 0, 0, -1};
        for (int what = 0; what < first.length; what++) {
            int w = what;
            Due.accepted(x, "at first: status(" + w + ")", first[w], () -> x.status(w));
        }
        int[] others = {-1, -2, 9, 10, 11, 17, 18, 100, Integer.MAX_VALUE, Integer.MIN_VALUE};
        for (int what : others) {
            Due.accepted(x, "status(" + what + ")", -1, () -> x.status(what));
        }
        PointAtWhoIsLost y = new PointAtWhoIsLost();
        for (int i = 1; i <= 8; i++) {
            y.post(0, 0, 0);
            y.row(i - 1, 0, 0);
            Due.due("POSTS", y.status(0), i);
            Due.due("SHELVES that hold something", y.status(8), i);
        }
        y.row(7, 1, 1);
        y.show(6, 0);
        Due.due("what was held goes", y.status(8), 8);
        y.show(7, -1);
        Due.due("NOTHING", y.status(8), 7);
        for (int i = 1; i <= 4; i++) {
            y.walker(11, 4);
            Due.due("WALKERS", y.status(3), i);
            Due.due("how many are LOST", y.status(4), i);
        }
        for (int i = 1; i <= 4; i++) {
            y.sure(i - 1, 5);
            Due.due("how many are LOST", y.status(4), 4 - i);
        }
        y.bog(1, true);
        y.bog(1, true);
        y.bog(44, true);
        Due.due("CELLS that are BOG", y.status(5), 2);
        y.bog(1, false);
        y.bog(1, false);
        Due.due("CELLS that are BOG", y.status(5), 1);
    }

    /** Each REFUSAL so many times, among calls that are not refused. */
    private static void statusCounts() {
        PointAtWhoIsLost x = Due.of("post 0 0 0;walker 11 9");
        x.show(0, 0);
        Due.ints(x, 2, 1);
        int[] want = new int[5];
        for (int i = 1; i <= 10; i++) {
            Due.due("BAD", x.side(4), -2);
            Due.due("OTHER", x.set(0, 0, 0), -3);
            Due.due("NOTHING", x.set(1, 0, 0), -4);
            Due.due("STUCK", x.bog(11, true), -5);
            Due.due("NONE", x.postOf(0, 3), -1);
            Due.due("an element -2 is none", x.set(2, 0, -2) + x.element(2, 0), -1);
            for (int k = 0; k < 4; k++) {
                want[k]++;
                Due.due("status(" + (12 + k) + ")", x.status(12 + k), want[k]);
            }
        }
        for (int i = 0; i < 3; i++) {
            x.walker(11, 9);
        }
        Due.due("FULL", x.walker(11, 9), -6);
        Due.due("FULL is counted", x.status(16), 1);
        x.seed(-2);
        Due.due("a SEED -2 is none", x.seed(-5), -2);
        Due.due("a SEED -5 is none", x.seed(1), -5);
        Due.due("a FAULT is BAD", Due.fen(x, "x"), -20);
        want[0]++;
        for (int k = 0; k < 4; k++) {
            Due.due("status(" + (12 + k) + ")", x.status(12 + k), want[k]);
        }
        x.wipe();
        x.image();
        x.back();
        Due.due("BAD is counted on", x.status(12), want[0]);
    }
}
