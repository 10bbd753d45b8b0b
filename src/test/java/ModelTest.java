import java.lang.reflect.InvocationTargetException;
import java.lang.reflect.Method;
import java.util.Arrays;
import java.util.HashMap;
import java.util.Map;
import java.util.Random;

/** Drawn calls (always the same) on the class and on Plain: every answer of the one is due to be the other's. */
public final class ModelTest {
    private static final int OBJECTS = 150;
    private static final int CALLS = 512;
    /** What each parameter is: s SHELF, o SORT, n a size, v a value, i a place, p POST, k KIND, d SIDE, c CELL, b boolean,
        a 0 to 9, w WALKER, l letter, t what, r ARM, g COMMAND, y days, z seed, u status, m pairs, h steps. */
    private static final String[] CALL = {
        "row:son", "set:siv", "set:siv", "set:siv", "copy:ssiii", "element:si", "holds:s", "show:sp", "says:sk", "side:d",
        "bog:cb", "bog:cb", "home:c", "post:kac", "walker:ca", "sure:wa", "feed:l", "wipe:", "fen:", "postOf:pt", "walkerOf:wt",
        "isBog:c", "way:cc", "arm:pc", "where:smi", "of:smt", "kinds:pr", "apart:t", "fewest:t", "more:", "armed:cr", "alike:c",
        "right:p", "pointing:w", "trembling:", "bestPair:", "idlest:", "leads:wc", "reach:ch", "open:c", "parts:", "worst:t",
        "path:cc", "found:", "meet:", "judge:siw", "nears:siw", "done:siw", "goes:wg", "goes:wg", "days:y", "seed:z", "image:",
        "back:", "status:u"};
    private static final int[] WILD = {Integer.MIN_VALUE, Integer.MAX_VALUE, -1, -2, 1 << 30, -10, 67, 100, 1000, 41};

    private static final Map<String, Method> METHODS = new HashMap<>();
    private static Random random;
    private static PointAtWhoIsLost x;
    private static Plain plain;
    private static int left;
    private static int object;

    public static void main(String[] args) throws IllegalAccessException {
        for (Method method : PointAtWhoIsLost.class.getMethods()) {
            METHODS.put(method.getName(), method);
        }
        for (object = 0; object < OBJECTS; object++) {
            random = new Random(object);
            x = new PointAtWhoIsLost();
            plain = new Plain();
            left = CALLS;
            while (left > 0) {
                turn();
            }
        }
        Due.end();
    }

    private static void turn() throws IllegalAccessException {
        int draw = random.nextInt(100);
        if (draw < 3) {
            text();
        } else if (draw < 6) {
            pairs();
        } else if (draw < 9) {
            walk();
        } else {
            String[] call = CALL[random.nextInt(CALL.length)].split(":", -1);
            long[] p = new long[call[1].length()];
            for (int i = 0; i < p.length; i++) {
                p[i] = parameter(call[1].charAt(i));
            }
            call(call[0], p);
        }
    }

    /** What both answer; when no call is left, nothing is called: what later calls answer is free. */
    private static long call(String name, long... p) throws IllegalAccessException {
        if (left == 0) {
            return 0;
        }
        left--;
        Method method = METHODS.get(name);
        Object[] given = new Object[p.length];
        for (int i = 0; i < p.length; i++) {
            Class<?> type = method.getParameterTypes()[i];
            if (type == boolean.class) {
                given[i] = p[i] != 0;
            } else if (type == long.class) {
                given[i] = p[i];
            } else {
                given[i] = (int) p[i];
            }
        }
        String told = "object " + object + ", " + left + " calls left: " + name + Arrays.toString(p);
        try {
            long got = ((Number) method.invoke(x, given)).longValue();
            Due.due(told, got, plain.call(name, p));
            return got;
        } catch (InvocationTargetException thrown) {
            Due.due(told + " threw " + thrown.getCause(), 1, 0);
            return 0;
        }
    }

    /** What there is, asked of the second reading, so that it is no call of the class. */
    private static int status(int what) {
        return (int) plain.call("status", what);
    }

    private static int cell() {
        int side = status(1) + (random.nextInt(12) == 0 ? 1 : 0);
        return 10 * random.nextInt(side) + random.nextInt(side);
    }

    private static long parameter(char what) {
        if (random.nextInt(60) == 0) {
            return what == 'b' ? 1 : WILD[random.nextInt(WILD.length)];
        }
        switch (what) {
            case 's':
                return random.nextInt(3);
            case 'o':
                return random.nextInt(5);
            case 'n':
                return random.nextInt(8) == 0 ? random.nextInt(42) : random.nextInt(9);
            case 'v':
                return random.nextInt(4) == 0 ? random.nextLong() : random.nextInt(4) == 0 ? cell() : random.nextInt(11) - 1;
            case 'i', 'm':
                return random.nextInt(6) - 1;
            case 'p':
                return random.nextInt(status(0) + 2) - 1;
            case 'k':
                return random.nextInt(6);
            case 'd':
                return random.nextInt(4) == 0 ? random.nextInt(10) : 5;
            case 'c':
                return cell();
            case 'b':
                return random.nextInt(2);
            case 'a':
                return random.nextInt(11);
            case 'w':
                return random.nextInt(status(3) + 1);
            case 'l':
                return random.nextInt(257);
            case 't':
                return random.nextInt(4);
            case 'r':
                return random.nextInt(11) - 1;
            case 'g':
                return random.nextInt(6);
            case 'y':
                return random.nextInt(4) == 0 ? random.nextInt(63) : random.nextInt(3);
            case 'z':
                return random.nextInt();
            case 'u':
                return random.nextInt(19) - 1;
            default:
                return random.nextInt(10) == 0 ? random.nextInt(75) : random.nextInt(8);
        }
    }

    /** A FEN of some STATEMENTS, in which now and then something stands that may not. */
    private static void text() throws IllegalAccessException {
        StringBuilder text = new StringBuilder();
        int statements = random.nextInt(4) + 1;
        for (int i = 0; i < statements; i++) {
            text.append(i > 0 ? blanks() + ";" + blanks() : blanks());
            switch (random.nextInt(6)) {
                case 0 -> text.append("side").append(blanks()).append(status(1) + random.nextInt(2) * random.nextInt(2));
                case 1 -> text.append("bog").append(blanks()).append(cell());
                case 2 -> text.append("dry").append(blanks()).append(cell());
                case 3 -> text.append("home").append(blanks()).append(cell());
                case 4 -> text.append("post").append(blanks()).append(random.nextInt(6)).append(' ').append(blanks())
                        .append(random.nextInt(10)).append(' ').append(cell());
                default -> text.append("walker").append(blanks()).append(cell()).append(' ').append(random.nextInt(10));
            }
            text.append(blanks());
        }
        if (random.nextInt(3) == 0) {
            int at = random.nextInt(text.length());
            switch (random.nextInt(5)) {
                case 0 -> text.deleteCharAt(at);
                case 1 -> text.setLength(at);
                case 2 -> text.insert(at, "; 0159zaA".charAt(random.nextInt(9)));
                case 3 -> text.setCharAt(at, (char) random.nextInt(256));
                default -> text.append(";");
            }
        }
        if (random.nextInt(10) != 0) {
            call("wipe");
        }
        for (int i = 0; i < text.length() && left > 0; i++) {
            call("feed", text.charAt(i));
        }
        call("fen");
    }

    private static String blanks() {
        return " ".repeat(random.nextInt(6) == 0 ? 2 : random.nextInt(2));
    }

    /** Some pairs, most of which fit a CELL, and what comes of them. */
    private static void pairs() throws IllegalAccessException {
        int n = random.nextInt(5);
        int s = random.nextInt(3);
        int cell = cell();
        call("row", s, random.nextInt(4), 2 * n + random.nextInt(2));
        for (int i = 0; i < n; i++) {
            int post = random.nextInt(Math.max(1, status(0)));
            call("set", s, 2 * i, post);
            long arm = call("arm", post, cell);
            call("set", s, 2 * i + 1, random.nextInt(5) == 0 ? random.nextInt(10) - 1 : arm);
        }
        call("where", s, n, -1);
        call("where", s, n, random.nextInt(6));
        call("of", s, n, 0);
        call("of", s, n, 1);
    }

    /** A told WALK of some steps beside each other. */
    private static void walk() throws IllegalAccessException {
        int n = random.nextInt(7);
        int s = random.nextInt(3);
        int walker = random.nextInt(status(3) + 1);
        int cell = (int) call("walkerOf", walker, 0);
        int[] on = {-10, 10, -1, 1};
        call("row", s, random.nextInt(4), n + random.nextInt(2));
        for (int i = 0; i < n; i++) {
            for (int turn = 0; turn < 6; turn++) {
                int next = cell + on[random.nextInt(4)];
                if (call("isBog", next) == 0) {
                    cell = next;
                    break;
                }
            }
            call("set", s, i, cell);
        }
        call("judge", s, n, walker);
        call("nears", s, n, walker);
        call("done", s, n, walker);
        call("walkerOf", walker, 1);
    }
}
