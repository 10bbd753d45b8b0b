/** Promises 9 to 17: what makes a fen, call by call and from THE TAPE. */
public final class FenTest {
    public static void main(String[] args) {
        side();
        bog();
        home();
        post();
        walker();
        sure();
        feedAndWipe();
        fen();
        faults();
        faultsOfNumbers();
        fenFull();
        nothingOfAFault();
        Due.end();
    }

    private static void side() {
        PointAtWhoIsLost x = new PointAtWhoIsLost();
        Due.accepted(x, "side(5)", 5, () -> x.side(5));
        Due.refused(x, "side(4)", -2, () -> x.side(4));
        Due.refused(x, "side(2)", -2, () -> x.side(2));
        Due.refused(x, "side(8)", -2, () -> x.side(8));
        Due.due("status(1)", x.status(1), 5);
        Due.accepted(x, "side(6)", 5, () -> x.side(6));
        Due.refused(x, "side(5) behind 6", -2, () -> x.side(5));
        Due.accepted(x, "side(7)", 6, () -> x.side(7));
        Due.due("isBog(66)", x.isBog(66), 0);
        Due.due("status(1)", x.status(1), 7);
    }

    private static void bog() {
        PointAtWhoIsLost x = new PointAtWhoIsLost();
        x.walker(11, 9);
        Due.accepted(x, "bog(22, true)", 0, () -> x.bog(22, true));
        Due.accepted(x, "bog(22, true) again", 1, () -> x.bog(22, true));
        Due.due("isBog(22)", x.isBog(22), 1);
        Due.due("status(5)", x.status(5), 1);
        Due.refused(x, "bog at HOME", -5, () -> x.bog(0, true));
        Due.refused(x, "bog under a WALKER", -5, () -> x.bog(11, true));
        Due.accepted(x, "bog(0, false)", 0, () -> x.bog(0, false));
        Due.accepted(x, "bog(11, false)", 0, () -> x.bog(11, false));
        Due.refused(x, "bog(-1, true)", -2, () -> x.bog(-1, true));
        Due.refused(x, "bog(5, false)", -2, () -> x.bog(5, false));
        Due.refused(x, "bog(50, true)", -2, () -> x.bog(50, true));
        Due.refused(x, "bog(67, true)", -2, () -> x.bog(67, true));
        Due.accepted(x, "bog(22, false)", 1, () -> x.bog(22, false));
        Due.due("status(5)", x.status(5), 0);
    }

    private static void home() {
        PointAtWhoIsLost x = new PointAtWhoIsLost();
        x.bog(12, true);
        Due.accepted(x, "home(11)", 0, () -> x.home(11));
        Due.refused(x, "home in BOG", -5, () -> x.home(12));
        Due.refused(x, "home(5)", -2, () -> x.home(5));
        Due.refused(x, "home(-1)", -2, () -> x.home(-1));
        Due.refused(x, "home(50)", -2, () -> x.home(50));
        Due.due("status(2)", x.status(2), 11);
        Due.due("bog where HOME was", x.bog(0, true), 0);
        Due.accepted(x, "home(11) again", 11, () -> x.home(11));
        x.walker(44, 3);
        Due.due("home under a WALKER", x.home(44), 11);
        Due.due("he is as SURE as he was", x.walkerOf(0, 1), 3);
    }

    private static void post() {
        PointAtWhoIsLost x = new PointAtWhoIsLost();
        x.bog(12, true);
        for (int i = 0; i < 8; i++) {
            Due.due("post " + i, x.post(i % 6, 9 - i, i == 0 ? 12 : 44), i);
        }
        Due.due("postOf(0, 2) in BOG", x.postOf(0, 2), 12);
        Due.refused(x, "post FULL", -6, () -> x.post(0, 0, 0));
        Due.refused(x, "post kind -1", -2, () -> x.post(-1, 0, 0));
        Due.refused(x, "post kind 6", -2, () -> x.post(6, 0, 0));
        Due.refused(x, "post a -1", -2, () -> x.post(0, -1, 0));
        Due.refused(x, "post a 10", -2, () -> x.post(0, 10, 0));
        Due.refused(x, "post cell 5", -2, () -> x.post(0, 0, 5));
        Due.refused(x, "post cell -1", -2, () -> x.post(0, 0, -1));
        Due.due("status(0)", x.status(0), 8);
    }

    private static void walker() {
        PointAtWhoIsLost x = new PointAtWhoIsLost();
        x.bog(12, true);
        Due.refused(x, "walker in BOG", -5, () -> x.walker(12, 0));
        Due.refused(x, "walker in BOG, not so SURE", -2, () -> x.walker(12, 10));
        Due.refused(x, "walker(5, 0)", -2, () -> x.walker(5, 0));
        Due.refused(x, "walker(0, -1)", -2, () -> x.walker(0, -1));
        Due.refused(x, "walker(0, 10)", -2, () -> x.walker(0, 10));
        Due.due("status(3)", x.status(3), 0);
        for (int i = 0; i < 4; i++) {
            Due.due("walker " + i, x.walker(11, 2 * i), i);
        }
        Due.due("status(3)", x.status(3), 4);
        Due.due("status(4)", x.status(4), 3);
        Due.refused(x, "walker FULL", -6, () -> x.walker(0, 0));
        Due.refused(x, "walker FULL, in BOG", -5, () -> x.walker(12, 0));
        Due.refused(x, "walker FULL, no CELL", -2, () -> x.walker(5, 0));
        Due.due("a WALKER put at HOME is as SURE as told", x.walkerOf(0, 1), 0);
    }

    private static void sure() {
        PointAtWhoIsLost x = Due.of("walker 11 4");
        Due.accepted(x, "sure(0, 5)", 4, () -> x.sure(0, 5));
        Due.due("no more LOST", x.walkerOf(0, 2), 0);
        Due.accepted(x, "sure(0, 0)", 5, () -> x.sure(0, 0));
        Due.due("LOST", x.walkerOf(0, 2), 1);
        Due.accepted(x, "sure(0, 9)", 0, () -> x.sure(0, 9));
        Due.refused(x, "sure(1, 0)", -2, () -> x.sure(1, 0));
        Due.refused(x, "sure(-1, 0)", -2, () -> x.sure(-1, 0));
        Due.refused(x, "sure(0, 10)", -2, () -> x.sure(0, 10));
        Due.refused(x, "sure(0, -1)", -2, () -> x.sure(0, -1));
        Due.due("SURE", x.walkerOf(0, 1), 9);
    }

    private static void feedAndWipe() {
        PointAtWhoIsLost x = new PointAtWhoIsLost();
        Due.accepted(x, "wipe() of nothing", 0, () -> x.wipe());
        Due.accepted(x, "feed(0)", 1, () -> x.feed(0));
        Due.accepted(x, "feed(255)", 2, () -> x.feed(255));
        Due.refused(x, "feed(-1)", -2, () -> x.feed(-1));
        Due.refused(x, "feed(256)", -2, () -> x.feed(256));
        Due.due("status(6)", x.status(6), 2);
        Due.accepted(x, "wipe()", 2, () -> x.wipe());
        Due.due("status(6)", x.status(6), 0);
        for (int i = 1; i <= 250; i++) {
            Due.due("feed " + i, x.feed(32), i);
        }
        Due.refused(x, "feed FULL", -6, () -> x.feed(32));
        Due.refused(x, "feed FULL, BAD", -2, () -> x.feed(256));
        Due.due("fen() of blanks", x.fen(), -270);
        Due.due("status(6)", x.status(6), 0);
    }

    private static void fen() {
        PointAtWhoIsLost x = new PointAtWhoIsLost();
        Due.feed(x, "  side 7;bog1 ; bog 10;dry 01 ;home66;post 4 9 65;walker0 4  ");
        Due.accepted(x, "fen()", 7, () -> x.fen());
        Due.due("side", x.status(1), 7);
        Due.due("bog 1", x.isBog(1), 0);
        Due.due("bog 10", x.isBog(10), 1);
        Due.due("home", x.status(2), 66);
        Due.due("post kind", x.postOf(0, 0), 4);
        Due.due("post a", x.postOf(0, 1), 9);
        Due.due("post cell", x.postOf(0, 2), 65);
        Due.due("walker cell", x.walkerOf(0, 0), 0);
        Due.due("walker SURE", x.walkerOf(0, 1), 4);
        Due.due("THE TAPE is empty", x.status(6), 0);
        Due.due("bog at what was HOME", Due.fen(x, "bog 66"), -24);
        Due.due("one more", Due.fen(x, "post 0 0 0"), 1);
        Due.due("its number", x.status(0), 2);
        Due.due("dry of what is no BOG", Due.fen(x, "dry 22"), 1);
        Due.due("bog of what is BOG", Due.fen(x, "bog 10"), 1);
        Due.due("a POST in BOG", Due.fen(x, "post 1 0 10"), 1);
        Due.due("side as it is", Due.fen(x, "side 7"), 1);
        Due.due("HOME where it is", Due.fen(x, "home 66;home 66"), 2);
        Due.due("the place is free of HOME, then BOG", Due.fen(x, "home 65;bog 66"), 2);
    }

    private static void faults() {
        fault("", 0);
        fault("   ", 3);
        fault(";", 0);
        fault(" ;side 5", 1);
        fault("5", 0);
        fault("sid 5", 0);
        fault("sides 5", 0);
        fault("Side 5", 0);
        fault("xide 5", 0);
        fault("sidez 5", 0);
        fault("zside 5", 0);
        fault("bog 1 z", 6);
        fault("bog 1; zz", 7);
        fault("side", 4);
        fault("side  ", 6);
        fault("side;", 4);
        fault("side side", 5);
        fault("side 5;", 7);
        fault("side 5; ", 8);
        fault("side 5;;side 5", 7);
        fault("side 5 5", 7);
        fault("side 5 side 5", 7);
        fault("side 5,side 5", 6);
        fault("side5x", 5);
        fault("bog 1!", 5);
        fault("bog\t1", 3);
        fault("bog 1" + (char) 0, 5);
        fault("bog 1" + (char) 255, 5);
        fault("bog", 3);
        fault("dry", 3);
        fault("home", 4);
        fault("post 1", 6);
        fault("post 1 2", 8);
        fault("post 1 2 ;", 9);
        fault("post 1 2 x", 9);
        fault("walker 1", 8);
        fault("walker 1;", 8);
        fault("post x", 5);
        fault("post 0 x", 7);
        fault("walker x", 7);
        fault("{", 0);
        fault("`", 0);
        fault("bog 1:", 5);
        fault("bog /", 4);
    }

    private static void faultsOfNumbers() {
        fault("side 2", 5);
        fault("side 4", 5);
        fault("side 8", 5);
        fault("side 005", 5);
        fault("side 55", 5);
        fault("side 6;side 5", 12);
        fault("bog 0", 4);
        fault("bog 50", 4);
        fault("bog 011", 4);
        fault("bog 99999999999999999999", 4);
        fault("bog  07", 5);
        fault("walker 11 0;bog 11", 16);
        fault("home 11;bog 11", 12);
        fault("bog 11;home 11", 12);
        fault("bog 11;walker 11 4", 14);
        fault("bog 11;walker 11 44", 14);
        fault("walker 11 10", 10);
        fault("walker 11 000", 10);
        fault("walker 5 0", 7);
        fault("dry 5", 4);
        fault("dry 111", 4);
        fault("home 5", 5);
        fault("post 6 0 0", 5);
        fault("post 6 0", 5);
        fault("post 000 0 0", 5);
        fault("post 0 10 0", 7);
        fault("post 0 0 50", 9);
        fault("post 0 0 000", 9);
    }

    private static void fault(String text, int place) {
        PointAtWhoIsLost x = new PointAtWhoIsLost();
        Due.feed(x, text);
        Due.due("fault of '" + text + "'", x.fen(), -20 - place);
        Due.due("BAD of '" + text + "'", x.status(12), 1);
        Due.due("THE TAPE behind '" + text + "'", x.status(6), 0);
        Due.due("SIDE behind '" + text + "'", x.status(1), 5);
        Due.due("HOME behind '" + text + "'", x.status(2), 0);
        Due.due("BOG behind '" + text + "'", x.status(5), 0);
        Due.due("WALKERS behind '" + text + "'", x.status(3), 0);
    }

    private static void fenFull() {
        PointAtWhoIsLost x = new PointAtWhoIsLost();
        String seven = "post 0 0 0;post 0 0 0;post 0 0 0;post 0 0 0;post 0 0 0;post 0 0 0;post 0 0 0";
        String three = "walker 0 0;walker 0 0;walker 0 0";
        Due.due("too many POSTS", Due.fen(x, seven + ";post 0 0 0; post !"), -20 - (seven.length() + 13));
        Due.due("status(0)", x.status(0), 0);
        Due.due("seven POSTS", Due.fen(x, seven), 7);
        Due.due("the eighth, the ninth", Due.fen(x, "post 0 0 0;  post 0 0 0"), -33);
        Due.due("status(0)", x.status(0), 7);
        Due.due("the eighth", Due.fen(x, "post 0 0 0"), 1);
        Due.due("the ninth", Due.fen(x, "post"), -20);
        Due.due("three WALKERS", Due.fen(x, three), 3);
        Due.due("two more", Due.fen(x, "walker 0 0;walker 0 0"), -31);
        Due.due("one more", Due.fen(x, "walker 0 0"), 1);
        Due.due("the fifth", Due.fen(x, " walker 5 0"), -21);
        Due.due("FULL isn't counted", x.status(16), 0);
        Due.due("BAD is", x.status(12), 5);
    }

    private static void nothingOfAFault() {
        PointAtWhoIsLost x = Due.of("bog 11;post 1 2 3;walker 44 3");
        x.seed(77);
        Due.due("a late fault", Due.fen(x, "side 6;dry 11;bog 12;home 55;post 0 0 0;walker 0 9;x"), -20 - 51);
        Due.due("side", x.status(1), 5);
        Due.due("isBog(11)", x.isBog(11), 1);
        Due.due("isBog(12)", x.isBog(12), 0);
        Due.due("home", x.status(2), 0);
        Due.due("posts", x.status(0), 1);
        Due.due("walkers", x.status(3), 1);
        Due.due("seed", x.status(7), 77);
    }
}
