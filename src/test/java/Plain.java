import java.util.ArrayList;
import java.util.Arrays;
import java.util.Comparator;
import java.util.HashMap;
import java.util.List;
import java.util.Map;
import java.util.TreeMap;
import java.util.TreeSet;
import java.util.function.IntPredicate;
import java.util.regex.Matcher;
import java.util.regex.Pattern;

/** A second reading of the document, in its plainest form and with the whole Java library: what ModelTest compares with. */
final class Plain {
    private static final int NONE = -1;

    /** A refusal on its way out. */
    private static final class Refusal extends RuntimeException {
        private static final long serialVersionUID = 1L;
        final int code;

        Refusal(int code) {
            super(null, null, false, false);
            this.code = code;
        }
    }

    private record Post(int kind, int a, int cell) {
    }

    private record Walker(int cell, int sure) {
        boolean lost() {
            return sure < 5;
        }
    }

    private static final class Fen {
        int side = 5;
        int home = 0;
        int seed = 1;
        TreeSet<Integer> bog = new TreeSet<>();
        List<Post> posts = new ArrayList<>();
        List<Walker> walkers = new ArrayList<>();

        Fen same() {
            Fen other = new Fen();
            other.side = side;
            other.home = home;
            other.seed = seed;
            other.bog.addAll(bog);
            other.posts.addAll(posts);
            other.walkers.addAll(walkers);
            return other;
        }

        List<Integer> all() {
            List<Integer> cells = new ArrayList<>();
            for (int r = 0; r < side; r++) {
                for (int c = 0; c < side; c++) {
                    cells.add(10 * r + c);
                }
            }
            return cells;
        }

        boolean cell(long n) {
            return n >= 0 && n < 100 && all().contains((int) n);
        }

        boolean dry(long n) {
            return cell(n) && !bog.contains((int) n);
        }

        List<Integer> dries() {
            List<Integer> cells = all();
            cells.removeAll(bog);
            return cells;
        }

        List<Integer> lost() {
            return walkers.stream().filter(Walker::lost).map(Walker::cell).toList();
        }

        boolean occupied(int n) {
            return n == home || walkers.stream().anyMatch(w -> w.cell == n);
        }
    }

    private static final class Row {
        final int sort;
        final long[] elements;

        Row(int sort, int n) {
            this.sort = sort;
            this.elements = new long[n];
        }
    }

    private Fen fen = new Fen();
    private Fen kept = null;
    private final Map<Integer, Row> rows = new HashMap<>();
    private final Map<Integer, Integer> shown = new HashMap<>();
    private String tape = "";
    private final int[] refusals = new int[5];

    private static void need(boolean is, int code) {
        if (!is) {
            throw new Refusal(code);
        }
    }

    private static void bad(boolean is) {
        need(!is, -2);
    }

    private static boolean in(long n, long least, long most) {
        return n >= least && n <= most;
    }

    /** What a call by its name answers. */
    long call(String name, long... p) {
        try {
            return answer(name, p, p.length > 0 ? (int) p[0] : 0, p.length > 1 ? (int) p[1] : 0, p.length > 2 ? (int) p[2] : 0);
        } catch (Refusal refusal) {
            refusals[-2 - refusal.code]++;
            return refusal.code;
        }
    }

    private long answer(String name, long[] p, int a, int b, int c) {
        switch (name) {
            case "row", "set", "copy", "element", "holds", "show", "says":
                return shelves(name, p, a, b, c);
            case "side", "bog", "home", "post", "walker", "sure", "feed", "wipe", "fen":
                return making(name, p, a, b, c);
            case "postOf", "walkerOf", "isBog", "way", "arm", "kinds", "armed", "right", "pointing", "trembling":
                return reading(name, a, b);
            case "where", "of", "apart", "fewest", "more", "alike", "bestPair", "idlest":
                return groups(name, a, b, c);
            case "leads", "reach", "open", "parts", "worst", "path", "found", "meet":
                return paths(name, a, b);
            case "judge", "nears", "done":
                return walks(name, a, b, c);
            default:
                return truth(name, a, b);
        }
    }

    private Row rowIn(int s) {
        bad(!in(s, 0, 7));
        need(!shown.containsKey(s), -3);
        need(rows.containsKey(s), -4);
        return rows.get(s);
    }

    private long shelves(String name, long[] p, int a, int b, int c) {
        switch (name) {
            case "row":
                bad(!in(a, 0, 7) || !in(b, 0, 4) || !in(c, 0, 40));
                rows.put(a, new Row(b, c));
                shown.remove(a);
                return 1;
            case "set": {
                Row row = rowIn(a);
                bad(!in(b, 0, row.elements.length - 1));
                long v = p[2];
                row.elements[b] = switch (row.sort) {
                    case 0 -> (byte) v;
                    case 1 -> (short) v;
                    case 2 -> (int) v;
                    case 3 -> v;
                    default -> v == 0 ? 0 : 1;
                };
                return 1;
            }
            case "copy":
                return copied(a, b, p[2], p[3], p[4]);
            case "element":
                return rows.containsKey(a) && in(b, 0, rows.get(a).elements.length - 1) ? rows.get(a).elements[b] : 0;
            case "holds":
                return rows.containsKey(a) ? rows.get(a).sort : shown.containsKey(a) ? 10 + shown.get(a) : NONE;
            case "show":
                bad(!in(a, 0, 7) || !in(b, -1, fen.posts.size() - 1));
                rows.remove(a);
                shown.remove(a);
                if (b != NONE) {
                    shown.put(a, b);
                }
                return 1;
            default: {
                bad(!in(a, 0, 7) || !in(b, 0, 5));
                need(!rows.containsKey(a), -3);
                need(shown.containsKey(a), -4);
                Post post = fen.posts.get(shown.get(a));
                int[] over = {-1, 0, 0, 1, 2, 0};
                int kind = post.kind;
                while (kind != -1 && kind != b) {
                    kind = over[kind];
                }
                need(kind == b, -3);
                return b == 0 ? post.a : armBy(post, fen.lost());
            }
        }
    }

    private long copied(int a, int b, long i, long j, long n) {
        bad(!in(a, 0, 7) || !in(b, 0, 7));
        need(!shown.containsKey(a) && !shown.containsKey(b), -3);
        Row from = rows.get(a);
        Row to = rows.get(b);
        need(from == null || to == null || from.sort == to.sort, -3);
        need(from != null && to != null, -4);
        bad(i < 0 || j < 0 || n < 0 || i + n > from.elements.length || j + n > to.elements.length);
        long[] some = Arrays.copyOfRange(from.elements, (int) i, (int) (i + n));
        for (int k = 0; k < n; k++) {
            to.elements[(int) j + k] = some[k];
        }
        return n;
    }

    private long making(String name, long[] p, int a, int b, int c) {
        int ahead;
        switch (name) {
            case "side":
                bad(!in(a, 3, 7) || a < fen.side);
                ahead = fen.side;
                fen.side = a;
                return ahead;
            case "bog":
                bad(!fen.cell(a));
                need(b == 0 || !fen.occupied(a), -5);
                ahead = fen.bog.contains(a) ? 1 : 0;
                if (b == 1) {
                    fen.bog.add(a);
                } else {
                    fen.bog.remove(a);
                }
                return ahead;
            case "home":
                bad(!fen.cell(a));
                need(fen.dry(a), -5);
                ahead = fen.home;
                fen.home = a;
                return ahead;
            case "post":
                bad(!in(a, 0, 5) || !in(b, 0, 9) || !fen.cell(c));
                need(fen.posts.size() < 8, -6);
                fen.posts.add(new Post(a, b, c));
                return fen.posts.size() - 1;
            case "walker":
                bad(!fen.cell(a) || !in(b, 0, 9));
                need(fen.dry(a), -5);
                need(fen.walkers.size() < 4, -6);
                fen.walkers.add(new Walker(a, b));
                return fen.walkers.size() - 1;
            case "sure":
                bad(!in(a, 0, fen.walkers.size() - 1) || !in(b, 0, 9));
                ahead = fen.walkers.get(a).sure;
                fen.walkers.set(a, new Walker(fen.walkers.get(a).cell, b));
                return ahead;
            case "feed":
                bad(!in(a, 0, 255));
                need(tape.length() < 250, -6);
                tape += (char) a;
                return tape.length();
            case "wipe":
                ahead = tape.length();
                tape = "";
                return ahead;
            default:
                return read();
        }
    }

    private record Token(String text, int place) {
    }

    private long read() {
        List<Token> tokens = new ArrayList<>();
        Matcher matcher = Pattern.compile("[a-z]+|[0-9]+|;|[^ ]", Pattern.DOTALL).matcher(tape);
        while (matcher.find()) {
            tokens.add(new Token(matcher.group(), matcher.start()));
        }
        tokens.add(new Token("", tape.length()));
        tape = "";
        Fen draft = fen.same();
        int at = 0;
        for (int statements = 1;; statements++) {
            int next = statement(draft, tokens, at);
            if (next < 0) {
                return fault(tokens.get(-1 - next));
            }
            if (tokens.get(next).text.isEmpty()) {
                fen = draft;
                return statements;
            }
            if (!tokens.get(next).text.equals(";")) {
                return fault(tokens.get(next));
            }
            at = next + 1;
        }
    }

    private long fault(Token token) {
        refusals[0]++;
        return -20 - token.place;
    }

    /** The TOKEN behind the STATEMENT, or -1 less the one that can't stand there. */
    private static int statement(Fen draft, List<Token> tokens, int at) {
        String word = tokens.get(at).text;
        boolean full = word.equals("post") && draft.posts.size() == 8 || word.equals("walker") && draft.walkers.size() == 4;
        Map<String, List<IntPredicate>> forms = new TreeMap<>();
        forms.put("side", List.of(n -> n >= draft.side && n >= 3 && n <= 7));
        forms.put("bog", List.of(n -> draft.cell(n) && !draft.occupied(n)));
        forms.put("dry", List.of(n -> draft.cell(n)));
        forms.put("home", List.of(n -> draft.dry(n)));
        forms.put("post", List.of(n -> n <= 5, n -> n <= 9, n -> draft.cell(n)));
        forms.put("walker", List.of(n -> draft.dry(n), n -> n <= 9));
        if (full || !forms.containsKey(word)) {
            return -1 - at;
        }
        List<Integer> numbers = new ArrayList<>();
        for (IntPredicate fits : forms.get(word)) {
            at++;
            String text = tokens.get(at).text;
            if (!text.matches("[0-9]{1,2}") || !fits.test(Integer.parseInt(text))) {
                return -1 - at;
            }
            numbers.add(Integer.parseInt(text));
        }
        int first = numbers.get(0);
        switch (word) {
            case "side" -> draft.side = first;
            case "bog" -> draft.bog.add(first);
            case "dry" -> draft.bog.remove(first);
            case "home" -> draft.home = first;
            case "post" -> draft.posts.add(new Post(first, numbers.get(1), numbers.get(2)));
            default -> draft.walkers.add(new Walker(first, numbers.get(1)));
        }
        return at + 1;
    }

    private static int wayBy(int d, int e) {
        if (d == 0 && e == 0) {
            return 8;
        }
        String up = 2 * Math.abs(d) < Math.abs(e) ? "" : d < 0 ? "u" : "d";
        String right = 2 * Math.abs(e) < Math.abs(d) ? "" : e > 0 ? "r" : "l";
        return List.of("u", "ur", "r", "dr", "d", "dl", "l", "ul").indexOf(up + right);
    }

    private static int wayTo(int from, int to) {
        return wayBy(to / 10 - from / 10, to % 10 - from % 10);
    }

    private static int steps(int from, int to) {
        return Math.abs(to / 10 - from / 10) + Math.abs(to % 10 - from % 10);
    }

    private static int turn(int arm, int on) {
        return arm == 8 || arm == NONE ? arm : (arm + on) % 8;
    }

    private static int armBy(Post post, List<Integer> lost) {
        int here = post.cell;
        int first = lost.size() == 1 ? lost.get(0) : NONE;
        switch (post.kind) {
            case 0:
                return first == NONE ? NONE : wayTo(here, first);
            case 1:
                return lost.stream().min(Comparator.comparingInt(cell -> steps(here, cell))).map(cell -> wayTo(here, cell)).orElse(NONE);
            case 2:
                return first == NONE || steps(here, first) > post.a ? NONE : wayTo(here, first);
            case 3:
                return turn(armBy(new Post(1, post.a, here), lost), 1);
            case 4:
                return turn(armBy(new Post(2, post.a, here), lost), 4);
            default:
                return lost.isEmpty() ? NONE : wayBy(lost.stream().mapToInt(cell -> cell / 10 - here / 10).sum(),
                        lost.stream().mapToInt(cell -> cell % 10 - here % 10).sum());
        }
    }

    private int bits(java.util.function.Predicate<Post> is) {
        int bits = 0;
        for (int i = 0; i < fen.posts.size(); i++) {
            bits += is.test(fen.posts.get(i)) ? 1 << i : 0;
        }
        return bits;
    }

    private long reading(String name, int a, int b) {
        boolean post = in(a, 0, fen.posts.size() - 1);
        boolean walker = in(a, 0, fen.walkers.size() - 1);
        switch (name) {
            case "postOf": {
                bad(!post || !in(b, 0, 3));
                Post it = fen.posts.get(a);
                return new int[] {it.kind, it.a, it.cell, armBy(it, fen.lost())}[b];
            }
            case "walkerOf": {
                bad(!walker || !in(b, 0, 3));
                Walker it = fen.walkers.get(a);
                return new int[] {it.cell, it.sure, it.lost() ? 1 : 0, path(it.cell, fen.home)}[b];
            }
            case "isBog":
                bad(!fen.cell(a));
                return fen.bog.contains(a) ? 1 : 0;
            case "way":
                bad(!fen.cell(a) || !fen.cell(b));
                return wayTo(a, b);
            case "arm":
                bad(!post || !fen.cell(b));
                return armBy(fen.posts.get(a), List.of(b));
            case "kinds": {
                bad(!post || !in(b, -1, 8));
                int bits = 0;
                for (int kind = 0; kind < 6; kind++) {
                    bits += armBy(new Post(kind, fen.posts.get(a).a, fen.posts.get(a).cell), fen.lost()) == b ? 1 << kind : 0;
                }
                return bits;
            }
            case "armed":
                bad(!fen.cell(a) || !in(b, -1, 8));
                return bits(it -> armBy(it, List.of(a)) == b);
            case "right":
                bad(!post);
                return fen.dries().stream().filter(cell -> armBy(fen.posts.get(a), List.of(cell)) == wayTo(fen.posts.get(a).cell, cell)).count();
            case "pointing":
                bad(!walker);
                return bits(it -> armBy(it, fen.lost()) == wayTo(it.cell, fen.walkers.get(a).cell));
            default:
                return bits(it -> armBy(it, fen.lost()) == NONE);
        }
    }

    /** The groups of all CELLS (no BOG) by some POSTS. */
    private Map<List<Integer>, List<Integer>> grouped(List<Post> some) {
        Map<List<Integer>, List<Integer>> groups = new HashMap<>();
        for (int cell : fen.dries()) {
            List<Integer> arms = some.stream().map(post -> armBy(post, List.of(cell))).toList();
            groups.computeIfAbsent(arms, key -> new ArrayList<>()).add(cell);
        }
        return groups;
    }

    private List<Post> some(int bits) {
        List<Post> posts = new ArrayList<>();
        for (int i = 0; i < fen.posts.size(); i++) {
            if ((bits & 1 << i) != 0) {
                posts.add(fen.posts.get(i));
            }
        }
        return posts;
    }

    private List<Integer> fitting(Row row, int n, int without) {
        List<Integer> cells = fen.dries();
        for (int pair = 0; pair < n; pair++) {
            Post post = fen.posts.get((int) row.elements[2 * pair]);
            long arm = row.elements[2 * pair + 1];
            if (pair != without) {
                cells.removeIf(cell -> armBy(post, List.of(cell)) != arm);
            }
        }
        return cells;
    }

    private Row pairs(int s, int n, boolean right) {
        bad(!in(s, 0, 7) || !in(n, 0, 20) || !right);
        Row row = rowIn(s);
        bad(row.elements.length < 2 * n);
        for (int i = 0; i < n; i++) {
            need(in(row.elements[2 * i], 0, fen.posts.size() - 1) && in(row.elements[2 * i + 1], -1, 8), -5);
        }
        return row;
    }

    private long groups(String name, int a, int b, int c) {
        int posts = fen.posts.size();
        int all = (1 << posts) - 1;
        int best = NONE;
        int most = NONE;
        switch (name) {
            case "where": {
                List<Integer> cells = fitting(pairs(a, b, c >= NONE), b, NONE);
                need(c < cells.size(), -5);
                return c == NONE ? cells.size() : cells.get(c);
            }
            case "of": {
                Row row = pairs(a, b, in(c, 0, 1));
                List<Integer> cells = fitting(row, b, NONE);
                return c == 0 ? next(cells) : falsePair(row, b, cells);
            }
            case "apart":
                bad(!in(a, 0, 2));
                Map<List<Integer>, List<Integer>> groups = grouped(fen.posts);
                return a == 0 ? groups.size() : a == 1 ? groups.values().stream().mapToInt(List::size).max().orElse(0)
                        : groups.entrySet().stream().filter(e -> e.getKey().stream().allMatch(arm -> arm == NONE)).mapToInt(e -> e.getValue().size()).sum();
            case "fewest":
                bad(!in(a, 0, 1));
                for (int size = 0; size <= posts; size++) {
                    for (int set = 0; set <= all; set++) {
                        if (Integer.bitCount(set) == size && grouped(some(set)).size() == grouped(fen.posts).size()) {
                            return a == 0 ? size : set;
                        }
                    }
                }
                return -99;
            case "more":
                for (int cell : fen.all()) {
                    List<Post> more = new ArrayList<>(fen.posts);
                    more.add(new Post(0, 0, cell));
                    int made = grouped(more).size();
                    best = made > most ? cell : best;
                    most = Math.max(most, made);
                }
                return best;
            case "alike":
                bad(!fen.dry(a));
                return grouped(fen.posts).values().stream().filter(group -> group.contains(a)).findFirst().get().size();
            case "bestPair":
                for (int pair = 0; pair < 100; pair++) {
                    int made = pair % 10 < posts && pair / 10 < pair % 10 ? grouped(some(1 << pair / 10 | 1 << pair % 10)).size() : NONE;
                    best = made > most ? pair : best;
                    most = Math.max(most, made);
                }
                return best;
            default:
                need(posts > 0, -5);
                for (int post = 0; post < posts; post++) {
                    int made = grouped(some(all - (1 << post))).size();
                    best = made > most ? post : best;
                    most = Math.max(most, made);
                }
                return best;
        }
    }

    private int next(List<Integer> cells) {
        int best = NONE;
        int least = 1000;
        for (int post = 0; post < fen.posts.size() && cells.size() > 1; post++) {
            int worst = 0;
            for (int arm = NONE; arm <= 8; arm++) {
                int count = 0;
                for (int cell : cells) {
                    count += armBy(fen.posts.get(post), List.of(cell)) == arm ? 1 : 0;
                }
                worst = Math.max(worst, count);
            }
            best = worst < least ? post : best;
            least = Math.min(least, worst);
        }
        return best;
    }

    private int falsePair(Row row, int n, List<Integer> cells) {
        int best = NONE;
        int most = NONE;
        for (int pair = 0; pair < n && cells.isEmpty(); pair++) {
            int count = fitting(row, n, pair).size();
            best = count > most ? pair : best;
            most = Math.max(most, count);
        }
        return best;
    }

    private static final int[] ON = {0, -10, 10, -1, 1};

    /** The shortest PATH, by going on and on from all CELLS at once until nothing gets shorter. */
    private int path(int from, int to) {
        Map<Integer, Integer> steps = new HashMap<>();
        steps.put(from, 0);
        for (boolean shorter = true; shorter;) {
            shorter = false;
            for (int cell : new ArrayList<>(steps.keySet())) {
                for (int command = 1; command < 5; command++) {
                    int next = cell + ON[command];
                    if (fen.dry(next) && steps.getOrDefault(next, 1000) > steps.get(cell) + 1) {
                        steps.put(next, steps.get(cell) + 1);
                        shorter = true;
                    }
                }
            }
        }
        return steps.getOrDefault(to, NONE);
    }

    private int far(int from, int to) {
        int steps = path(from, to);
        return steps == NONE ? 1000 : steps;
    }

    private int nearer(int from, int to) {
        for (int command = 1; command < 5; command++) {
            if (fen.dry(from + ON[command]) && far(from + ON[command], to) < far(from, to)) {
                return command;
            }
        }
        return NONE;
    }

    private long paths(String name, int a, int b) {
        int best = NONE;
        int least = 1000;
        switch (name) {
            case "leads":
                bad(!in(a, 0, fen.walkers.size() - 1) || !fen.cell(b));
                return fen.walkers.get(a).cell == b ? 0 : nearer(fen.walkers.get(a).cell, b);
            case "reach":
                bad(!fen.cell(a) || !in(b, 0, 70));
                return fen.all().stream().filter(cell -> far(a, cell) <= b).count();
            case "open":
                bad(!fen.cell(a));
                return Arrays.stream(ON).filter(on -> on != 0 && fen.dry(a + on)).count();
            case "parts":
                return fen.dries().stream().filter(cell -> fen.dries().stream().noneMatch(other -> other < cell && path(other, cell) != NONE)).count();
            case "worst":
                bad(!in(a, 0, 1));
                need(!fen.walkers.isEmpty(), -5);
                for (int i = 0; i < fen.walkers.size(); i++) {
                    int value = a == 0 ? fen.walkers.get(i).sure : -far(fen.walkers.get(i).cell, fen.home);
                    best = value < least ? i : best;
                    least = Math.min(least, value);
                }
                return best;
            case "path":
                bad(!fen.cell(a) || !fen.cell(b));
                return path(a, b);
            case "found":
                for (int i = 0; i < fen.walkers.size(); i++) {
                    for (int j = 0; j < fen.walkers.size(); j++) {
                        boolean pair = !fen.walkers.get(i).lost() && fen.walkers.get(j).lost();
                        int steps = pair ? far(fen.walkers.get(i).cell, fen.walkers.get(j).cell) : 1000;
                        best = steps < least ? 10 * i + j : best;
                        least = Math.min(least, steps);
                    }
                }
                return best;
            default:
                if (fen.walkers.isEmpty()) {
                    return 0;
                }
                for (int cell : fen.dries()) {
                    int longest = fen.walkers.stream().mapToInt(w -> far(w.cell, cell)).max().orElse(0);
                    best = longest < least ? cell : best;
                    least = Math.min(least, longest);
                }
                return best;
        }
    }

    private long walks(String name, int s, int n, int walker) {
        bad(!in(s, 0, 7) || !in(n, 0, 40) || !in(walker, 0, fen.walkers.size() - 1));
        Row row = rowIn(s);
        bad(row.elements.length < n);
        int at = fen.walkers.get(walker).cell;
        int nears = 0;
        int wrong = NONE;
        for (int i = 0; i < n && wrong == NONE; i++) {
            long to = row.elements[i];
            if (!fen.dry(to) || steps(at, (int) to) != 1) {
                wrong = i;
            } else {
                nears += far((int) to, fen.home) < far(at, fen.home) ? 1 : 0;
                at = (int) to;
            }
        }
        if (name.equals("judge")) {
            return wrong;
        }
        need(wrong == NONE, -5);
        if (name.equals("nears")) {
            return nears;
        }
        fen.walkers.set(walker, new Walker(at, at == fen.home ? 9 : fen.walkers.get(walker).sure));
        return at;
    }

    private void go(int walker, int command) {
        Walker it = fen.walkers.get(walker);
        int cell = it.cell + ON[command];
        int sure = it.lost() && command > 0 ? Math.max(it.sure - 1, 0) : it.sure;
        fen.walkers.set(walker, new Walker(cell, cell == fen.home ? 9 : sure));
    }

    private void day() {
        for (int i = 0; i < fen.walkers.size(); i++) {
            if (fen.walkers.get(i).lost()) {
                fen.seed = (int) ((long) fen.seed * 1103515245L + 12345L);
                int command = (fen.seed >> 16 & 0xFFFF) % 5;
                go(i, fen.dry(fen.walkers.get(i).cell + ON[command]) ? command : 0);
            }
        }
        for (int i = 0; i < fen.walkers.size(); i++) {
            if (!fen.walkers.get(i).lost()) {
                go(i, Math.max(0, nearer(fen.walkers.get(i).cell, fen.home)));
            }
        }
    }

    private long truth(String name, int a, int b) {
        switch (name) {
            case "goes":
                bad(!in(a, 0, fen.walkers.size() - 1) || !in(b, 0, 4));
                need(fen.dry(fen.walkers.get(a).cell + ON[b]), -5);
                go(a, b);
                return fen.walkers.get(a).cell;
            case "days":
                bad(!in(a, 1, 60));
                for (int day = 0; day < a; day++) {
                    day();
                }
                return fen.walkers.size() - fen.lost().size();
            case "seed": {
                int ahead = fen.seed;
                fen.seed = a;
                return ahead;
            }
            case "image":
                kept = fen.same();
                return 1;
            case "back":
                need(kept != null, -5);
                fen = kept.same();
                shown.values().removeIf(post -> post >= fen.posts.size());
                return 1;
            default: {
                int[] counts = {fen.posts.size(), fen.side, fen.home, fen.walkers.size(), fen.lost().size(), fen.bog.size(),
                    tape.length(), fen.seed, rows.size() + shown.size(), -1, -1, -1, refusals[0], refusals[1], refusals[2],
                    refusals[3], refusals[4]};
                return in(a, 0, counts.length - 1) ? counts[a] : NONE;
            }
        }
    }
}
