/** The edges of a FEN that is read from THE TAPE (section 1, promise 17): what may stand where, and where the FAULT is. */
public final class EdgesOfTapeTest {
    public static void main(String[] args) {
        oneStatementOrMore();
        asManyStatementsAsTheTapeHolds();
        blanksMayStandAnywhereBetween();
        tokensAreAsLongAsCanBe();
        wordsAreWhole();
        everyByteAsTheFirst();
        everyByteBehindAWord();
        everyByteBehindANumber();
        signsBetweenStatements();
        numbersHave2DigitsAtMost();
        sideOnlyAsManyOrMore();
        bogNotAtHomeNorAtAWalker();
        dryNeedsACell();
        homeIsNoBog();
        postNeedsAKindAnAAndACell();
        walkerIsInNoBog();
        laterStatementsSeeEarlierOnes();
        itEndsTooEarly();
        thereIsNoRoom();
        allOrNothing();
        theTapeIsEmptyThen();
        Due.end();
    }

    private static void fault(String text, int place) {
        faultIn(new PointAtWhoIsLost(), text, place);
    }

    private static void faultIn(PointAtWhoIsLost x, String text, int place) {
        String ahead = Whole.of(x);
        Due.due("feed of '" + text + "'", Due.feed(x, text), text.length());
        Due.due("'" + text + "'", x.fen(), -20 - place);
        Due.due("BAD of '" + text + "'", x.status(12), 1);
        Due.same("all there is behind '" + text + "'", Whole.of(x), ahead);
    }

    private static void reads(String text, int statements) {
        readsIn(new PointAtWhoIsLost(), text, statements);
    }

    private static void readsIn(PointAtWhoIsLost x, String text, int statements) {
        Due.feed(x, text);
        Due.accepted(x, "'" + text + "'", statements, () -> x.fen());
        Due.due("THE TAPE behind '" + text + "'", x.status(6), 0);
    }

    private static void oneStatementOrMore() {
        fault("", 0);
        reads("dry 0", 1);
        reads("dry 0;dry 0", 2);
        reads("side 5;bog 1;dry 2;home 3;post 0 0 4;walker 10 0", 6);
    }

    private static void asManyStatementsAsTheTapeHolds() {
        reads("dry1;".repeat(49) + "bog 1", 50);
        fault("dry1;".repeat(50), 250);
        fault("dry1;".repeat(49) + "dry 5", 249);
        fault("dry1;".repeat(49) + "dry1x", 249);
        reads(" ".repeat(245) + "dry 1", 1);
        reads("dry 1" + " ".repeat(245), 1);
        fault(" ".repeat(250), 250);
        fault("dry 1" + " ".repeat(244) + "1", 249);
        fault("a".repeat(250), 0);
        fault("bog " + "1".repeat(246), 4);
    }

    private static void blanksMayStandAnywhereBetween() {
        reads("side5;bog1;dry1;home2;post0 0 3;walker4 5", 6);
        reads("  side  5  ;  bog  1  ;  post  0  0  3  ;  walker  4  5  ", 4);
        fault("po st 0 0 3", 0);
        fault("bog 1 1", 6);
        fault("post 00 3", 9);
        fault("post 003", 5);
        fault("walker 4 5 ; ", 13);
        fault("bog\t1", 3);
        fault("bog\n1", 3);
        fault("bog 1\r", 5);
        fault("bog" + (char) 160 + "1", 3);
    }

    private static void tokensAreAsLongAsCanBe() {
        PointAtWhoIsLost x = new PointAtWhoIsLost();
        readsIn(x, "bog11", 1);
        Due.due("bog11 is bog 11", x.isBog(11), 1);
        Due.due("bog11 is not bog 1", x.isBog(1), 0);
        PointAtWhoIsLost y = new PointAtWhoIsLost();
        readsIn(y, "bog 1;home 11", 2);
        Due.due("home 11", y.status(2), 11);
        fault("bogbog 1", 0);
        fault("bogdry1", 0);
        fault("bog 1dry 1", 5);
        fault("post 0 0 011", 9);
        fault("side 5 5", 7);
    }

    private static void wordsAreWhole() {
        String[] rest = {" 5", " 1", " 1", " 1", " 0 0 0", " 1 0"};
        String[] words = {"side", "bog", "dry", "home", "post", "walker"};
        for (int i = 0; i < words.length; i++) {
            String word = words[i];
            reads(word + rest[i], 1);
            fault(word.substring(1) + rest[i], 0);
            fault(word.substring(0, word.length() - 1) + rest[i], 0);
            fault(word + "s" + rest[i], 0);
            fault("a" + word + rest[i], 0);
            fault(word.substring(0, word.length() - 1) + "z" + rest[i], 0);
            fault("z" + word.substring(1) + rest[i], 0);
            fault(Character.toUpperCase(word.charAt(0)) + word.substring(1) + rest[i], 0);
            fault(word.toUpperCase() + rest[i], 0);
            fault(word.substring(0, 2) + Character.toUpperCase(word.charAt(2)) + word.substring(3) + rest[i], 0);
            fault("dry 0; " + word + word + rest[i], 7);
        }
    }

    private static void everyByteAsTheFirst() {
        for (int letter = 0; letter <= 255; letter++) {
            fault("" + (char) letter, letter == ' ' ? 1 : 0);
            fault((char) letter + "bog 5", letter == ' ' ? 5 : 0);
        }
    }

    private static void everyByteBehindAWord() {
        for (int letter = 0; letter <= 255; letter++) {
            String text = "bog" + (char) letter + "1";
            if (letter == ' ' || letter >= '0' && letter <= '4') {
                PointAtWhoIsLost x = new PointAtWhoIsLost();
                readsIn(x, text, 1);
                Due.due("BOG of '" + text + "'", x.isBog(letter == ' ' ? 1 : 10 * (letter - '0') + 1), 1);
            } else {
                fault(text, letter >= 'a' && letter <= 'z' ? 0 : 3);
            }
        }
    }

    private static void everyByteBehindANumber() {
        for (int letter = 0; letter <= 255; letter++) {
            String text = "bog 1" + (char) letter;
            if (letter == ' ' || letter >= '0' && letter <= '4') {
                reads(text, 1);
            } else if (letter == ';') {
                fault(text, 6);
            } else {
                fault(text, letter >= '5' && letter <= '9' ? 4 : 5);
            }
        }
    }

    private static void signsBetweenStatements() {
        fault(";", 0);
        fault(" ;bog 1", 1);
        fault("bog 1;", 6);
        fault("bog 1; ", 7);
        fault("bog 1;;bog 2", 6);
        fault("bog 1 ; ;bog 2", 8);
        fault("bog 1 bog 2", 6);
        fault("bog;1", 3);
        fault("bog ;", 4);
        fault("post 0;0 0", 6);
        fault("post 0 0;0", 8);
        fault("walker 1;0", 8);
        fault("bog 1:bog 2", 5);
        fault("bog 1,bog 2", 5);
        fault("5;bog 1", 0);
        fault("bog 1;5", 6);
        fault("bog bog", 4);
        fault("post 0 0 post", 9);
    }

    /** Each NUMBER that a STATEMENT has: two digits may be, of which the first may be 0; three may not, whatever they say. */
    private static void numbersHave2DigitsAtMost() {
        String[] right = {"side 05", "bog 01", "dry 00", "home 01", "post 00 00 00", "post 05 09 44", "walker 01 09"};
        for (String text : right) {
            reads(text, 1);
        }
        fault("side 005", 5);
        fault("bog 001", 4);
        fault("dry 000", 4);
        fault("home 001", 5);
        fault("post 000 0 0", 5);
        fault("post 0 000 0", 7);
        fault("post 0 0 000", 9);
        fault("walker 001 0", 7);
        fault("walker 1 000", 9);
        fault("side 100", 5);
        fault("bog 111", 4);
        // these are 5 and 1 to whoever counts in 32 bits, or in 64
        fault("side 4294967301", 5);
        fault("bog 4294967297", 4);
        fault("bog 18446744073709551617", 4);
        fault("walker 1 4294967296", 9);
        fault("bog " + "0".repeat(200) + "1", 4);
    }

    private static void sideOnlyAsManyOrMore() {
        int[] sides = {5, 6, 7};
        for (int is : sides) {
            for (int n = 0; n <= 20; n++) {
                PointAtWhoIsLost x = new PointAtWhoIsLost();
                x.side(is);
                if (n >= is && n <= 7) {
                    readsIn(x, "side " + n, 1);
                    Due.due("SIDE " + is + " behind side " + n, x.status(1), n);
                } else {
                    faultIn(x, "side " + n, 5);
                }
            }
        }
        reads("side 5;side 6;side 7;side 7", 4);
        fault("side 7;side 6", 12);
        fault("side 6;side 5", 12);
        fault("side 8", 5);
    }

    private static void bogNotAtHomeNorAtAWalker() {
        for (int cell = 0; cell <= 99; cell++) {
            PointAtWhoIsLost x = Due.of("home 22;walker 11 9;walker 33 0");
            boolean may = cell / 10 < 5 && cell % 10 < 5 && cell != 22 && cell != 11 && cell != 33;
            if (may) {
                readsIn(x, "bog " + cell, 1);
                Due.due("BOG " + cell, x.isBog(cell), 1);
                Due.due("how many are BOG", x.status(5), 1);
            } else {
                faultIn(x, "bog " + cell, 4);
            }
        }
        reads("bog 1;bog 1", 2);
    }

    private static void dryNeedsACell() {
        for (int cell = 0; cell <= 99; cell++) {
            PointAtWhoIsLost x = Due.of("bog 1;bog 44;walker 11 9");
            if (cell / 10 < 5 && cell % 10 < 5) {
                readsIn(x, "dry " + cell, 1);
                Due.due("BOG " + cell, x.isBog(cell), 0);
                Due.due("how many are BOG", x.status(5), cell == 1 || cell == 44 ? 1 : 2);
            } else {
                faultIn(x, "dry " + cell, 4);
            }
        }
    }

    private static void homeIsNoBog() {
        for (int cell = 0; cell <= 99; cell++) {
            PointAtWhoIsLost x = Due.of("bog 1;bog 44;walker 11 3");
            if (cell / 10 < 5 && cell % 10 < 5 && cell != 1 && cell != 44) {
                readsIn(x, "home " + cell, 1);
                Due.due("HOME", x.status(2), cell);
                Due.due("SURE of who is there", x.walkerOf(0, 1), 3);
            } else {
                faultIn(x, "home " + cell, 5);
            }
        }
    }

    private static void postNeedsAKindAnAAndACell() {
        for (int n = 0; n <= 99; n++) {
            PointAtWhoIsLost x = Due.of("bog 44");
            PointAtWhoIsLost y = new PointAtWhoIsLost();
            PointAtWhoIsLost z = Due.of("bog 44");
            if (n <= 5) {
                readsIn(x, "post " + n + " 1 2", 1);
                Due.due("KIND", x.postOf(0, 0), n);
            } else {
                faultIn(x, "post " + n + " 1 2", 5);
            }
            if (n <= 9) {
                readsIn(y, "post 1 " + n + " 2", 1);
                Due.due("a", y.postOf(0, 1), n);
            } else {
                faultIn(y, "post 1 " + n + " 2", 7);
            }
            if (n / 10 < 5 && n % 10 < 5) {
                readsIn(z, "post 1 2 " + n, 1);
                Due.due("CELL", z.postOf(0, 2), n);
            } else {
                faultIn(z, "post 1 2 " + n, 9);
            }
        }
        fault("post 6 10 5", 5);
        fault("post 5 10 5", 7);
        fault("post 5 9 5", 9);
    }

    private static void walkerIsInNoBog() {
        for (int n = 0; n <= 99; n++) {
            PointAtWhoIsLost x = Due.of("bog 44");
            PointAtWhoIsLost y = new PointAtWhoIsLost();
            if (n / 10 < 5 && n % 10 < 5 && n != 44) {
                readsIn(x, "walker " + n + " 0", 1);
                Due.due("CELL", x.walkerOf(0, 0), n);
            } else {
                faultIn(x, "walker " + n + " 0", 7);
            }
            if (n <= 9) {
                readsIn(y, "walker 1 " + n, 1);
                Due.due("SURE", y.walkerOf(0, 1), n);
                Due.due("whether LOST", y.walkerOf(0, 2), n < 5 ? 1 : 0);
            } else {
                faultIn(y, "walker 1 " + n, 9);
            }
        }
        fault("bog 1;walker 1 10", 13);
        fault("walker 1 10", 9);
    }

    private static void laterStatementsSeeEarlierOnes() {
        reads("side 6;bog 55", 2);
        fault("bog 55;side 6", 4);
        reads("side 6;walker 50 0;home 5;post 0 0 55;dry 54", 5);
        fault("bog 1;home 1", 11);
        reads("bog 1;dry 1;home 1", 3);
        fault("bog 1;walker 1 0", 13);
        reads("bog 1;dry 1;walker 1 0", 3);
        fault("home 1;bog 1", 11);
        reads("home 1;bog 0", 2);
        fault("walker 1 0;bog 1", 15);
        reads("bog 1;post 0 0 1", 2);
        PointAtWhoIsLost x = new PointAtWhoIsLost();
        readsIn(x, "bog 1;dry 1;bog 2;home 3;home 4;side 6;side 7", 7);
        Due.due("1", x.isBog(1), 0);
        Due.due("2", x.isBog(2), 1);
        Due.due("HOME", x.status(2), 4);
        Due.due("SIDE", x.status(1), 7);
        PointAtWhoIsLost y = new PointAtWhoIsLost();
        readsIn(y, "post 1 2 3;post 4 5 4", 2);
        Due.due("the first POST's a", y.postOf(0, 1), 2);
        Due.due("the second POST's a", y.postOf(1, 1), 5);
        readsIn(y, "post 0 0 0;walker 1 2;walker 3 4", 3);
        Due.due("the third POST", y.postOf(2, 2), 0);
        Due.due("the second WALKER", y.walkerOf(1, 0), 3);
    }

    private static void itEndsTooEarly() {
        String[] texts = {"side", "side ", "bog", "bog  ", "dry", "dry ", "home", "home ", "post", "post ", "post 0", "post 0 ",
            "post 0 0", "post 0 0  ", "walker", "walker ", "walker 1", "walker 1 ", "bog 1;", "bog 1; ", "bog 1;bog", "bog 1 ; bog ",
            "", " ", "  "};
        for (String text : texts) {
            fault(text, text.length());
        }
        // what is cut within a TOKEN is another TOKEN
        fault("sid", 0);
        fault("bog 1;bo", 6);
        reads("bog 1", 1);
        reads("post 0 0 4", 1);
        fault("walker 5", 7);
        fault("post 6", 5);
        fault("post 0 10", 7);
        fault("bog 1;walker 0 1;bog", 20);
    }

    private static void thereIsNoRoom() {
        String[] behind = {"post 0 0 0", "post", "post ", "post 6 0 0", "post 0 0 5", "post 000", "post;", "post x", "post!"};
        for (String text : behind) {
            PointAtWhoIsLost x = Due.of("post 0 0 0;post 0 0 0;post 0 0 0;post 0 0 0;post 0 0 0;post 0 0 0;post 0 0 0");
            faultIn(x, "post 5 9 44;" + text, 12);
            readsIn(x, "post 5 9 44", 1);
            Due.due("the eighth", x.postOf(7, 2), 44);
            Due.due("the ninth, '" + text + "'", Due.fen(x, "  " + text), -22);
            Due.due("POSTS", x.status(0), 8);
            Due.due("FULL is not counted", x.status(16), 0);
            Due.due("BAD is", x.status(12), 2);
        }
        String[] fifth = {"walker 0 0", "walker", "walker 5 0", "walker 0 10", "walker;", "walker x"};
        for (String text : fifth) {
            PointAtWhoIsLost x = Due.of("walker 0 0;walker 0 0;walker 0 0");
            faultIn(x, "walker 44 9;" + text, 12);
            readsIn(x, "walker 44 9", 1);
            Due.due("the fifth, '" + text + "'", Due.fen(x, " " + text), -21);
            Due.due("WALKERS", x.status(3), 4);
            Due.due("FULL is not counted", x.status(16), 0);
        }
        PointAtWhoIsLost x = Due.of("post 0 0 0;post 0 0 0;post 0 0 0;post 0 0 0;post 0 0 0;post 0 0 0;post 0 0 0;post 0 0 0");
        readsIn(x, "bog 1;walker 2 3", 2);
        Due.due("posts, none but a longer word", Due.fen(x, "posts 0 0 0"), -20);
    }

    private static void allOrNothing() {
        String made = "side 6;bog 1;post 1 2 3;walker 4 5";
        String[] faults = {"side 7;x", "bog 2;x", "dry 1;x", "home 2;x", "post 0 0 0;x", "walker 0 0;x"};
        for (String text : faults) {
            PointAtWhoIsLost x = Due.of(made);
            x.seed(3);
            x.image();
            x.seed(4);
            faultIn(x, text, text.length() - 1);
            Due.due("back()", x.back(), 1);
            Due.due("the image's SEED", x.status(7), 3);
            Due.due("the image's SIDE", x.status(1), 6);
            Due.due("the image's BOG", x.status(5), 1);
        }
        PointAtWhoIsLost y = Due.of(made);
        y.image();
        readsIn(y, "side 7;dry 1;home 2;post 0 0 0;walker 0 0", 5);
        Due.due("SEED is as it was", y.status(7), 1);
        y.back();
        Due.same("the image is as it was", Whole.of(y), Whole.of(Due.of(made)));
    }

    private static void theTapeIsEmptyThen() {
        PointAtWhoIsLost x = new PointAtWhoIsLost();
        Due.due("a FAULT", Due.fen(x, "bog 1;bog 5"), -30);
        Due.due("THE TAPE's size", x.status(6), 0);
        Due.due("nothing is left of it", x.fen(), -20);
        Due.due("a FEN", Due.fen(x, "bog 1"), 1);
        Due.due("THE TAPE's size", x.status(6), 0);
        Due.due("nothing is left of it", x.fen(), -20);
        Due.due("three BADs", x.status(12), 3);
    }
}
