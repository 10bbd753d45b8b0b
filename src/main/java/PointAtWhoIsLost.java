import java.util.Arrays;

/**
 * Signposts point at who is lost. What each call must do is told by the document, promise by promise;
 * the words in capitals are the document's own.
 */
public final class PointAtWhoIsLost {
    public static final int NONE = -1;

    private static final int BAD = -2;
    private static final int OTHER = -3;
    private static final int NOTHING = -4;
    private static final int STUCK = -5;
    private static final int FULL = -6;
    /** What a check answers that finds nothing to refuse. */
    private static final int FINE = 0;
    /** What is taken off a FAULT's place, so that it can't be taken for another answer. */
    private static final int FAULT_BASE = -20;

    private static final int LEAST_SIDE = 3;
    private static final int MOST_SIDE = 7;
    /** One more than the greatest number of a CELL. */
    private static final int CELL_ROOM = 67;
    private static final int DRY_ROOM = MOST_SIDE * MOST_SIDE;
    private static final int POST_ROOM = 8;
    private static final int WALKER_ROOM = 4;
    private static final int TAPE_ROOM = 250;
    private static final int SHELF_ROOM = 8;
    private static final int ROW_ROOM = 40;
    private static final int PAIR_ROOM = 20;

    private static final int KIND_COUNT = 6;
    private static final int KEEN = 1;
    private static final int LAZY = 2;
    private static final int WILD = 3;
    private static final int ROTTEN = 4;
    private static final int TORN = 5;

    private static final int SORT_COUNT = 5;
    private static final int BYTES = 0;
    private static final int SHORTS = 1;
    private static final int INTS = 2;
    private static final int BOOLEANS = 4;
    /** What stands in front of a POST's number in a SHELF. */
    private static final int POST_MARK = 10;

    private static final int DIGIT_MOST = 9;
    private static final int LOST_BELOW = 5;
    private static final int SURE_MOST = 9;
    /** WAY to the same CELL. */
    private static final int HERE = 8;
    private static final int ARM_MOST = 8;
    /** How many ARMS there are, trembling among them. */
    private static final int ARM_COUNT = 10;
    private static final int COMMAND_MOST = 4;
    private static final int DAYS_MOST = 60;
    private static final int REACH_MOST = 70;
    private static final int BYTE_MOST = 255;
    private static final int REFUSAL_COUNT = 5;
    private static final int FIRST_REFUSAL_STATUS = 12;
    /** By how much a CELL's number changes by each COMMAND. */
    private static final int[] COMMAND_STEP = {0, -10, 10, -1, 1};

    private final Land land = new Land();
    /** Keeps what image() kept. */
    private final Land kept = new Land();
    /** Takes what a FEN says until all of it has been read. */
    private final Land draft = new Land();
    private boolean hasKept;
    private final Shelves shelves = new Shelves();
    private final Tape tape = new Tape();
    private final Sight sight = new Sight();
    private final Lookout lookout = new Lookout();
    private final Paths paths = new Paths();
    private final int[] refusals = new int[REFUSAL_COUNT];
    /** The places, in the lookout, of the CELLS that fit. */
    private final int[] fitting = new int[DRY_ROOM];
    private final int[] tally = new int[PAIR_ROOM];
    private final int[] longest = new int[CELL_ROOM];

    public PointAtWhoIsLost() {
    }

    // ---- rows and shelves

    public int row(int s, int sort, int n) {
        if (!isShelf(s) || !isWithin(sort, 0, SORT_COUNT - 1) || !isWithin(n, 0, ROW_ROOM)) {
            return refuse(BAD);
        }
        shelves.putRow(s, sort, n);
        return 1;
    }

    public int set(int s, int i, long v) {
        int why = shelves.whyNoRow(s);
        if (why == FINE && !shelves.hasElement(s, i)) {
            why = BAD;
        }
        if (why != FINE) {
            return refuse(why);
        }
        shelves.putElement(s, i, v);
        return 1;
    }

    public int copy(int p, int q, int i, int j, int n) {
        int why = shelves.whyNoTwins(p, q);
        if (why == FINE && !(shelves.hasRange(p, i, n) && shelves.hasRange(q, j, n))) {
            why = BAD;
        }
        if (why != FINE) {
            return refuse(why);
        }
        shelves.moveElements(p, q, i, j, n);
        return n;
    }

    public long element(int s, int i) {
        return shelves.elementAt(s, i);
    }

    public int holds(int s) {
        return shelves.contentOf(s);
    }

    public int show(int s, int post) {
        if (!isShelf(s) || post != NONE && !land.hasPost(post)) {
            return refuse(BAD);
        }
        shelves.putPost(s, post);
        return 1;
    }

    public int says(int s, int kind) {
        if (!isShelf(s) || !isKind(kind)) {
            return refuse(BAD);
        }
        int content = shelves.contentOf(s);
        if (content == NONE) {
            return refuse(NOTHING);
        }
        int post = content - POST_MARK;
        if (!land.hasPost(post) || !isKindUnder(land.postKind[post], kind)) {
            return refuse(OTHER);
        }
        return kind == 0 ? land.postA[post] : armAsThingsAre(post);
    }

    // ---- the fen

    public int side(int n) {
        if (!land.canHaveSide(n)) {
            return refuse(BAD);
        }
        int ahead = land.side;
        land.side = n;
        return ahead;
    }

    public int bog(int cell, boolean is) {
        if (!land.isCell(cell)) {
            return refuse(BAD);
        }
        if (is && !land.canBeBog(cell)) {
            return refuse(STUCK);
        }
        int ahead = land.bogs[cell];
        land.bogs[cell] = is ? 1 : 0;
        return ahead;
    }

    public int home(int cell) {
        if (!land.isCell(cell)) {
            return refuse(BAD);
        }
        if (!land.isDry(cell)) {
            return refuse(STUCK);
        }
        int ahead = land.home;
        land.home = cell;
        return ahead;
    }

    public int post(int kind, int a, int cell) {
        if (!isKind(kind) || !isWithin(a, 0, DIGIT_MOST) || !land.isCell(cell)) {
            return refuse(BAD);
        }
        if (!land.hasRoomForPost()) {
            return refuse(FULL);
        }
        return land.addPost(kind, a, cell);
    }

    public int walker(int cell, int sure) {
        if (!land.isCell(cell) || !isWithin(sure, 0, SURE_MOST)) {
            return refuse(BAD);
        }
        if (!land.isDry(cell)) {
            return refuse(STUCK);
        }
        if (!land.hasRoomForWalker()) {
            return refuse(FULL);
        }
        return land.addWalker(cell, sure);
    }

    public int sure(int walker, int v) {
        if (!land.hasWalker(walker) || !isWithin(v, 0, SURE_MOST)) {
            return refuse(BAD);
        }
        int ahead = land.walkerSure[walker];
        land.walkerSure[walker] = v;
        return ahead;
    }

    public int feed(int letter) {
        if (!isWithin(letter, 0, BYTE_MOST)) {
            return refuse(BAD);
        }
        if (!tape.hasRoom()) {
            return refuse(FULL);
        }
        return tape.append(letter);
    }

    public int wipe() {
        int ahead = tape.size;
        tape.size = 0;
        return ahead;
    }

    public int fen() {
        draft.takeFrom(land);
        int statements = tape.readInto(draft);
        int fault = tape.start;
        tape.size = 0;
        if (statements == NONE) {
            refuse(BAD);
            return FAULT_BASE - fault;
        }
        land.takeFrom(draft);
        return statements;
    }

    // ---- what there is

    public int postOf(int post, int what) {
        if (!land.hasPost(post) || !isWithin(what, 0, 3)) {
            return refuse(BAD);
        }
        switch (what) {
            case 0:
                return land.postKind[post];
            case 1:
                return land.postA[post];
            case 2:
                return land.postCell[post];
            default:
                return armAsThingsAre(post);
        }
    }

    public int walkerOf(int walker, int what) {
        if (!land.hasWalker(walker) || !isWithin(what, 0, 3)) {
            return refuse(BAD);
        }
        switch (what) {
            case 0:
                return land.walkerCell[walker];
            case 1:
                return land.walkerSure[walker];
            case 2:
                return land.isLost(walker) ? 1 : 0;
            default:
                paths.measureFrom(land, land.walkerCell[walker]);
                return paths.stepsTo(land.home);
        }
    }

    public int isBog(int cell) {
        if (!land.isCell(cell)) {
            return refuse(BAD);
        }
        return land.bogs[cell];
    }

    public int way(int from, int to) {
        if (!land.isCell(from) || !land.isCell(to)) {
            return refuse(BAD);
        }
        return wayBetween(from, to);
    }

    public int arm(int post, int cell) {
        if (!land.hasPost(post) || !land.isCell(cell)) {
            return refuse(BAD);
        }
        sight.seeOne(cell);
        return armInSight(post);
    }

    // ---- what the arms tell

    public int where(int s, int n, int i) {
        int why = whyNoPairs(s, n, i >= NONE);
        if (why != FINE) {
            return refuse(why);
        }
        int left = findFitting(s, n);
        if (i == NONE) {
            return left;
        }
        if (i < 0 || i >= left) {
            return refuse(STUCK);
        }
        return lookout.cellAt[fitting[i]];
    }

    public int of(int s, int n, int what) {
        int why = whyNoPairs(s, n, isWithin(what, 0, 1));
        if (why != FINE) {
            return refuse(why);
        }
        int left = findFitting(s, n);
        return what == 0 ? nextPost(left) : falsePair(s, n, left);
    }

    public int kinds(int post, int arm) {
        if (!land.hasPost(post) || !isArm(arm)) {
            return refuse(BAD);
        }
        sight.seeAll(land);
        int bits = 0;
        for (int kind = 0; kind < KIND_COUNT; kind++) {
            if (sight.armBy(kind, land.postA[post], land.postCell[post]) == arm) {
                bits |= 1 << kind;
            }
        }
        return bits;
    }

    public int apart(int what) {
        if (!isWithin(what, 0, 2)) {
            return refuse(BAD);
        }
        lookout.survey(land, sight);
        int groups = lookout.groupBy(allPosts());
        switch (what) {
            case 0:
                return groups;
            case 1:
                return lookout.greatestGroup();
            default:
                return lookout.blindCells();
        }
    }

    public int fewest(int what) {
        if (!isWithin(what, 0, 1)) {
            return refuse(BAD);
        }
        lookout.survey(land, sight);
        int all = allPosts();
        int groups = lookout.groupBy(all);
        int best = all;
        for (int posts = 0; posts < all; posts++) {
            if (Integer.bitCount(posts) < Integer.bitCount(best) && lookout.groupBy(posts) == groups) {
                best = posts;
            }
        }
        return what == 0 ? Integer.bitCount(best) : best;
    }

    public int more() {
        lookout.survey(land, sight);
        lookout.groupBy(allPosts());
        int best = NONE;
        int most = 0;
        for (int cell = 0; cell < CELL_ROOM; cell++) {
            if (land.isCell(cell)) {
                int made = lookout.groupsWithPostAt(cell);
                if (best == NONE || made > most) {
                    best = cell;
                    most = made;
                }
            }
        }
        return best;
    }

    public int armed(int cell, int arm) {
        if (!land.isCell(cell) || !isArm(arm)) {
            return refuse(BAD);
        }
        sight.seeOne(cell);
        return postsWithArm(arm);
    }

    public int alike(int cell) {
        if (!land.isDry(cell)) {
            return refuse(BAD);
        }
        lookout.survey(land, sight);
        lookout.groupBy(allPosts());
        return lookout.groupSizeOf(cell);
    }

    public int right(int post) {
        if (!land.hasPost(post)) {
            return refuse(BAD);
        }
        int count = 0;
        for (int cell = 0; cell < CELL_ROOM; cell++) {
            if (land.isDry(cell)) {
                sight.seeOne(cell);
                count += armInSight(post) == wayBetween(land.postCell[post], cell) ? 1 : 0;
            }
        }
        return count;
    }

    public int pointing(int walker) {
        if (!land.hasWalker(walker)) {
            return refuse(BAD);
        }
        sight.seeAll(land);
        int bits = 0;
        for (int post = 0; post < land.posts; post++) {
            if (armInSight(post) == wayBetween(land.postCell[post], land.walkerCell[walker])) {
                bits |= 1 << post;
            }
        }
        return bits;
    }

    public int trembling() {
        sight.seeAll(land);
        return postsWithArm(NONE);
    }

    public int bestPair() {
        lookout.survey(land, sight);
        int best = NONE;
        int most = 0;
        for (int lesser = 0; lesser < land.posts; lesser++) {
            for (int other = lesser + 1; other < land.posts; other++) {
                int groups = lookout.groupBy(1 << lesser | 1 << other);
                if (best == NONE || groups > most) {
                    best = 10 * lesser + other;
                    most = groups;
                }
            }
        }
        return best;
    }

    public int idlest() {
        if (land.posts == 0) {
            return refuse(STUCK);
        }
        lookout.survey(land, sight);
        int best = NONE;
        int most = 0;
        for (int post = 0; post < land.posts; post++) {
            int groups = lookout.groupBy(allPosts() & ~(1 << post));
            if (best == NONE || groups > most) {
                best = post;
                most = groups;
            }
        }
        return best;
    }

    // ---- ways round the bog

    public int leads(int walker, int to) {
        if (!land.hasWalker(walker) || !land.isCell(to)) {
            return refuse(BAD);
        }
        int at = land.walkerCell[walker];
        if (at == to) {
            return 0;
        }
        if (!land.isDry(to)) {
            return NONE;
        }
        paths.measureFrom(land, to);
        return paths.commandNearer(land, at);
    }

    public int reach(int from, int n) {
        if (!land.isCell(from) || !isWithin(n, 0, REACH_MOST)) {
            return refuse(BAD);
        }
        paths.measureFrom(land, from);
        return paths.cellsWithin(n);
    }

    public int open(int cell) {
        if (!land.isCell(cell)) {
            return refuse(BAD);
        }
        int count = 0;
        for (int command = 1; command <= COMMAND_MOST; command++) {
            count += land.isDry(cell + COMMAND_STEP[command]) ? 1 : 0;
        }
        return count;
    }

    public int parts() {
        return paths.countParts(land);
    }

    public int worst(int what) {
        if (!isWithin(what, 0, 1)) {
            return refuse(BAD);
        }
        if (land.walkers == 0) {
            return refuse(STUCK);
        }
        return what == 0 ? leastSure() : longestOut();
    }

    public int path(int from, int to) {
        if (!land.isCell(from) || !land.isCell(to)) {
            return refuse(BAD);
        }
        paths.measureFrom(land, from);
        return paths.stepsTo(to);
    }

    public int found() {
        int best = NONE;
        int shortest = 0;
        for (int finder = 0; finder < land.walkers; finder++) {
            if (!land.isLost(finder)) {
                paths.measureFrom(land, land.walkerCell[finder]);
                int lost = nearestLost();
                int steps = lost == NONE ? NONE : paths.stepsTo(land.walkerCell[lost]);
                if (steps != NONE && (best == NONE || steps < shortest)) {
                    best = 10 * finder + lost;
                    shortest = steps;
                }
            }
        }
        return best;
    }

    public int meet() {
        if (land.walkers == 0) {
            return 0;
        }
        measureLongest();
        int best = NONE;
        for (int cell = 0; cell < CELL_ROOM; cell++) {
            if (land.isDry(cell) && longest[cell] != NONE
                    && (best == NONE || longest[cell] < longest[best])) {
                best = cell;
            }
        }
        return best;
    }

    // ---- told walks

    public int judge(int s, int n, int walker) {
        int why = whyNoWalk(s, n, walker);
        if (why != FINE) {
            return refuse(why);
        }
        return firstWrong(s, n, walker);
    }

    public int nears(int s, int n, int walker) {
        int why = whyNoRightWalk(s, n, walker);
        if (why != FINE) {
            return refuse(why);
        }
        paths.measureFrom(land, land.home);
        int ahead = paths.stepsTo(land.walkerCell[walker]);
        int count = 0;
        for (int i = 0; i < n; i++) {
            int steps = paths.stepsTo(shelves.elementAt(s, i));
            count += steps < ahead ? 1 : 0;
            ahead = steps;
        }
        return count;
    }

    public int done(int s, int n, int walker) {
        int why = whyNoRightWalk(s, n, walker);
        if (why != FINE) {
            return refuse(why);
        }
        if (n > 0) {
            land.walkerCell[walker] = (int) shelves.elementAt(s, n - 1);
        }
        if (land.walkerCell[walker] == land.home) {
            land.walkerSure[walker] = SURE_MOST;
        }
        return land.walkerCell[walker];
    }

    // ---- steps in truth

    public int goes(int walker, int command) {
        if (!land.hasWalker(walker) || !isWithin(command, 0, COMMAND_MOST)) {
            return refuse(BAD);
        }
        if (!land.canGo(walker, command)) {
            return refuse(STUCK);
        }
        land.move(walker, command);
        return land.walkerCell[walker];
    }

    public int days(int n) {
        if (!isWithin(n, 1, DAYS_MOST)) {
            return refuse(BAD);
        }
        paths.measureFrom(land, land.home);
        for (int day = 0; day < n; day++) {
            lostOnesStray();
            othersGoHome();
        }
        return land.walkers - land.lostCount();
    }

    public int seed(int v) {
        int ahead = land.seed;
        land.seed = v;
        return ahead;
    }

    // ---- the whole

    public int image() {
        kept.takeFrom(land);
        hasKept = true;
        return 1;
    }

    public int back() {
        if (!hasKept) {
            return refuse(STUCK);
        }
        land.takeFrom(kept);
        shelves.dropPostsFrom(land.posts);
        return 1;
    }

    public int status(int what) {
        switch (what) {
            case 0:
                return land.posts;
            case 1:
                return land.side;
            case 2:
                return land.home;
            case 3:
                return land.walkers;
            case 4:
                return land.lostCount();
            case 5:
                return land.bogCount();
            case 6:
                return tape.size;
            case 7:
                return land.seed;
            case 8:
                return shelves.filledCount();
            default:
                return refusalsBy(what);
        }
    }

    // ---- refusals and checks

    private int refuse(int code) {
        int place = BAD - code;
        if (isWithin(place, 0, REFUSAL_COUNT - 1)) {
            refusals[place]++;
        }
        return code;
    }

    private int refusalsBy(int what) {
        if (!isWithin(what, FIRST_REFUSAL_STATUS, FIRST_REFUSAL_STATUS + REFUSAL_COUNT - 1)) {
            return NONE;
        }
        return refusals[what - FIRST_REFUSAL_STATUS];
    }

    private static boolean isWithin(long number, int least, int most) {
        return number >= least && number <= most;
    }

    private static boolean isShelf(int s) {
        return s >= 0 && s < SHELF_ROOM;
    }

    private static boolean isKind(int kind) {
        return kind >= 0 && kind < KIND_COUNT;
    }

    private static boolean isArm(long arm) {
        return arm >= NONE && arm <= ARM_MOST;
    }

    /** Whether a KIND is another one, or stands under it. */
    private static boolean isKindUnder(int kind, int other) {
        return other == 0 || kind == other || kind == WILD && other == KEEN || kind == ROTTEN && other == LAZY;
    }

    private int whyNoPairs(int s, int n, boolean restIsRight) {
        if (!isShelf(s) || !isWithin(n, 0, PAIR_ROOM) || !restIsRight) {
            return BAD;
        }
        int why = shelves.whyNoRow(s);
        if (why != FINE) {
            return why;
        }
        if (!shelves.hasRange(s, 0, 2 * n)) {
            return BAD;
        }
        for (int pair = 0; pair < n; pair++) {
            if (!land.hasPost(shelves.elementAt(s, 2 * pair)) || !isArm(shelves.elementAt(s, 2 * pair + 1))) {
                return STUCK;
            }
        }
        return FINE;
    }

    private int whyNoWalk(int s, int n, int walker) {
        if (!isShelf(s) || !isWithin(n, 0, ROW_ROOM) || !land.hasWalker(walker)) {
            return BAD;
        }
        int why = shelves.whyNoRow(s);
        if (why == FINE && !shelves.hasRange(s, 0, n)) {
            why = BAD;
        }
        return why;
    }

    private int whyNoRightWalk(int s, int n, int walker) {
        int why = whyNoWalk(s, n, walker);
        if (why == FINE && firstWrong(s, n, walker) != NONE) {
            why = STUCK;
        }
        return why;
    }

    private int firstWrong(int s, int n, int walker) {
        int at = land.walkerCell[walker];
        for (int i = 0; i < n; i++) {
            long next = shelves.elementAt(s, i);
            if (!land.isDry(next) || stepsBetween(at, (int) next) != 1) {
                return i;
            }
            at = (int) next;
        }
        return NONE;
    }

    // ---- arms

    private int armAsThingsAre(int post) {
        sight.seeAll(land);
        return armInSight(post);
    }

    private int armInSight(int post) {
        return sight.armBy(land.postKind[post], land.postA[post], land.postCell[post]);
    }

    private int postsWithArm(int arm) {
        int bits = 0;
        for (int post = 0; post < land.posts; post++) {
            if (armInSight(post) == arm) {
                bits |= 1 << post;
            }
        }
        return bits;
    }

    private int allPosts() {
        return (1 << land.posts) - 1;
    }

    /** Surveys the fen and notes the CELLS that fit the first n pairs: how many. */
    private int findFitting(int s, int n) {
        lookout.survey(land, sight);
        int left = 0;
        for (int k = 0; k < lookout.cells; k++) {
            if (missAt(s, n, k) == NONE) {
                fitting[left] = k;
                left++;
            }
        }
        return left;
    }

    /** NONE, if all pairs fit the k-th CELL; the one that doesn't, if it is the only one; else n. */
    private int missAt(int s, int n, int k) {
        int miss = NONE;
        for (int pair = 0; pair < n; pair++) {
            int post = (int) shelves.elementAt(s, 2 * pair);
            if (lookout.armOf(post, k) != shelves.elementAt(s, 2 * pair + 1)) {
                if (miss != NONE) {
                    return n;
                }
                miss = pair;
            }
        }
        return miss;
    }

    private int nextPost(int left) {
        if (left < 2) {
            return NONE;
        }
        int best = NONE;
        int fewestLeft = 0;
        for (int post = 0; post < land.posts; post++) {
            int worstCase = lookout.mostByOneArm(post, fitting, left);
            if (best == NONE || worstCase < fewestLeft) {
                best = post;
                fewestLeft = worstCase;
            }
        }
        return best;
    }

    private int falsePair(int s, int n, int left) {
        if (left > 0) {
            return NONE;
        }
        Arrays.fill(tally, 0);
        for (int k = 0; k < lookout.cells; k++) {
            int miss = missAt(s, n, k);
            if (miss >= 0 && miss < n) {
                tally[miss]++;
            }
        }
        int best = 0;
        for (int pair = 1; pair < n; pair++) {
            if (tally[pair] > tally[best]) {
                best = pair;
            }
        }
        return best;
    }

    /** WAY by d ROWS down and e COLUMNS right. */
    private static int wayBy(int d, int e) {
        if (d == 0 && e == 0) {
            return HERE;
        }
        int rows = d < 0 ? -d : d;
        int columns = e < 0 ? -e : e;
        if (2 * columns < rows) {
            return d < 0 ? 0 : 4;
        }
        if (2 * rows < columns) {
            return e > 0 ? 2 : 6;
        }
        if (d < 0) {
            return e > 0 ? 1 : 7;
        }
        return e > 0 ? 3 : 5;
    }

    private static int wayBetween(int from, int to) {
        return wayBy(to / 10 - from / 10, to % 10 - from % 10);
    }

    private static int stepsBetween(int from, int to) {
        return Math.abs(to / 10 - from / 10) + Math.abs(to % 10 - from % 10);
    }

    // ---- walkers

    private int leastSure() {
        int best = 0;
        for (int walker = 1; walker < land.walkers; walker++) {
            if (land.walkerSure[walker] < land.walkerSure[best]) {
                best = walker;
            }
        }
        return best;
    }

    private int longestOut() {
        paths.measureFrom(land, land.home);
        int best = 0;
        int most = NONE;
        for (int walker = 0; walker < land.walkers; walker++) {
            int steps = paths.stepsTo(land.walkerCell[walker]);
            int out = steps == NONE ? CELL_ROOM : steps;
            if (out > most) {
                best = walker;
                most = out;
            }
        }
        return best;
    }

    /** The LOST one that is nearest by the PATHS last measured, of several the first; NONE. */
    private int nearestLost() {
        int best = NONE;
        int shortest = 0;
        for (int walker = 0; walker < land.walkers; walker++) {
            if (land.isLost(walker)) {
                int steps = paths.stepsTo(land.walkerCell[walker]);
                if (steps != NONE && (best == NONE || steps < shortest)) {
                    best = walker;
                    shortest = steps;
                }
            }
        }
        return best;
    }

    /** For each CELL the longest of all WALKERS' PATHS there; NONE, if one has none. */
    private void measureLongest() {
        Arrays.fill(longest, 0);
        for (int walker = 0; walker < land.walkers; walker++) {
            paths.measureFrom(land, land.walkerCell[walker]);
            for (int cell = 0; cell < CELL_ROOM; cell++) {
                int steps = paths.stepsTo(cell);
                boolean allCome = longest[cell] != NONE && steps != NONE;
                longest[cell] = allCome ? Math.max(longest[cell], steps) : NONE;
            }
        }
    }

    private void lostOnesStray() {
        for (int walker = 0; walker < land.walkers; walker++) {
            if (land.isLost(walker)) {
                int command = land.draw(COMMAND_MOST + 1);
                land.move(walker, land.canGo(walker, command) ? command : 0);
            }
        }
    }

    /** Goes by the PATHS from HOME, which must have been measured. */
    private void othersGoHome() {
        for (int walker = 0; walker < land.walkers; walker++) {
            if (!land.isLost(walker)) {
                int command = paths.commandNearer(land, land.walkerCell[walker]);
                land.move(walker, command == NONE ? 0 : command);
            }
        }
    }

    /** A fen with all that stands and walks in it: all that an image keeps. */
    private static final class Land {
        int side = 5;
        int home;
        int seed = 1;
        int posts;
        int walkers;
        final int[] bogs = new int[CELL_ROOM];
        final int[] postKind = new int[POST_ROOM];
        final int[] postA = new int[POST_ROOM];
        final int[] postCell = new int[POST_ROOM];
        final int[] walkerCell = new int[WALKER_ROOM];
        final int[] walkerSure = new int[WALKER_ROOM];

        void takeFrom(Land other) {
            side = other.side;
            home = other.home;
            seed = other.seed;
            posts = other.posts;
            walkers = other.walkers;
            System.arraycopy(other.bogs, 0, bogs, 0, CELL_ROOM);
            System.arraycopy(other.postKind, 0, postKind, 0, POST_ROOM);
            System.arraycopy(other.postA, 0, postA, 0, POST_ROOM);
            System.arraycopy(other.postCell, 0, postCell, 0, POST_ROOM);
            System.arraycopy(other.walkerCell, 0, walkerCell, 0, WALKER_ROOM);
            System.arraycopy(other.walkerSure, 0, walkerSure, 0, WALKER_ROOM);
        }

        boolean isCell(long number) {
            return number >= 0 && number < CELL_ROOM && number / 10 < side && number % 10 < side;
        }

        /** Whether it is a CELL and no BOG. */
        boolean isDry(long number) {
            return isCell(number) && bogs[(int) number] == 0;
        }

        boolean canHaveSide(int n) {
            return n >= LEAST_SIDE && n >= side && n <= MOST_SIDE;
        }

        boolean canBeBog(int cell) {
            if (cell == home) {
                return false;
            }
            for (int walker = 0; walker < walkers; walker++) {
                if (walkerCell[walker] == cell) {
                    return false;
                }
            }
            return true;
        }

        boolean hasPost(long post) {
            return post >= 0 && post < posts;
        }

        boolean hasWalker(int walker) {
            return walker >= 0 && walker < walkers;
        }

        boolean hasRoomForPost() {
            return posts < POST_ROOM;
        }

        boolean hasRoomForWalker() {
            return walkers < WALKER_ROOM;
        }

        /** The number of the new POST; there must be room. */
        int addPost(int kind, int a, int cell) {
            int number = posts;
            postKind[number] = kind;
            postA[number] = a;
            postCell[number] = cell;
            posts++;
            return number;
        }

        /** The number of the new WALKER; there must be room. */
        int addWalker(int cell, int sure) {
            int number = walkers;
            walkerCell[number] = cell;
            walkerSure[number] = sure;
            walkers++;
            return number;
        }

        boolean isLost(int walker) {
            return walkerSure[walker] < LOST_BELOW;
        }

        int lostCount() {
            int count = 0;
            for (int walker = 0; walker < walkers; walker++) {
                count += isLost(walker) ? 1 : 0;
            }
            return count;
        }

        int bogCount() {
            int count = 0;
            for (int cell = 0; cell < CELL_ROOM; cell++) {
                count += bogs[cell];
            }
            return count;
        }

        boolean canGo(int walker, int command) {
            return isDry(walkerCell[walker] + COMMAND_STEP[command]);
        }

        /** Goes by a COMMAND, in truth; he must be able to. */
        void move(int walker, int command) {
            walkerCell[walker] += COMMAND_STEP[command];
            if (walkerCell[walker] == home) {
                walkerSure[walker] = SURE_MOST;
            } else if (isLost(walker) && command != 0) {
                walkerSure[walker] = Math.max(0, walkerSure[walker] - 1);
            }
        }

        int draw(int below) {
            seed = seed * 1103515245 + 12345;
            return below > 0 ? (seed >>> 16) % below : 0;
        }
    }

    /** The LOST ones that the POSTS see: those in a fen, or a single one somewhere. */
    private static final class Sight {
        private final int[] lostCell = new int[WALKER_ROOM];
        private int lost;

        void seeAll(Land land) {
            lost = 0;
            for (int walker = 0; walker < land.walkers; walker++) {
                if (land.isLost(walker)) {
                    lostCell[lost] = land.walkerCell[walker];
                    lost++;
                }
            }
        }

        void seeOne(int cell) {
            lostCell[0] = cell;
            lost = 1;
        }

        int armBy(int kind, int a, int from) {
            switch (kind) {
                case KEEN:
                    return keenArm(from);
                case LAZY:
                    return lazyArm(a, from);
                case WILD:
                    return turned(keenArm(from), 1);
                case ROTTEN:
                    return turned(lazyArm(a, from), 4);
                case TORN:
                    return tornArm(from);
                default:
                    return lost == 1 ? wayBetween(from, lostCell[0]) : NONE;
            }
        }

        private int keenArm(int from) {
            if (lost == 0) {
                return NONE;
            }
            int nearest = lostCell[0];
            for (int i = 1; i < lost; i++) {
                if (stepsBetween(from, lostCell[i]) < stepsBetween(from, nearest)) {
                    nearest = lostCell[i];
                }
            }
            return wayBetween(from, nearest);
        }

        private int lazyArm(int a, int from) {
            if (lost != 1 || stepsBetween(from, lostCell[0]) > a) {
                return NONE;
            }
            return wayBetween(from, lostCell[0]);
        }

        private int tornArm(int from) {
            if (lost == 0) {
                return NONE;
            }
            int d = 0;
            int e = 0;
            for (int i = 0; i < lost; i++) {
                d += lostCell[i] / 10 - from / 10;
                e += lostCell[i] % 10 - from % 10;
            }
            return wayBy(d, e);
        }

        private static int turned(int arm, int on) {
            return arm == NONE || arm == HERE ? arm : (arm + on) % 8;
        }
    }

    /** The ARMS of all POSTS for a single LOST one in each CELL (no BOG), and the groups they make. */
    private static final class Lookout {
        int cells;
        /** The CELLS (no BOG) by number; their places here stand for them in all the rest. */
        final int[] cellAt = new int[DRY_ROOM];
        private int posts;
        private final int[] arms = new int[POST_ROOM * DRY_ROOM];
        private final int[] groupAt = new int[DRY_ROOM];
        private final int[] sizes = new int[DRY_ROOM];
        private final int[] byArm = new int[ARM_COUNT];
        /** The new group for each group and ARM; it holds only where the mark is the last one. */
        private final int[] newGroup = new int[DRY_ROOM * ARM_COUNT];
        private final int[] marks = new int[DRY_ROOM * ARM_COUNT];
        private int lastMark;

        void survey(Land land, Sight sight) {
            cells = 0;
            posts = land.posts;
            for (int cell = 0; cell < CELL_ROOM; cell++) {
                if (land.isDry(cell) && cells < DRY_ROOM) {
                    cellAt[cells] = cell;
                    sight.seeOne(cell);
                    for (int post = 0; post < posts; post++) {
                        int arm = sight.armBy(land.postKind[post], land.postA[post], land.postCell[post]);
                        arms[post * DRY_ROOM + cells] = arm;
                    }
                    cells++;
                }
            }
        }

        int armOf(int post, int k) {
            boolean isThere = post >= 0 && post < posts && k >= 0 && k < cells;
            return isThere ? arms[post * DRY_ROOM + k] : NONE;
        }

        /** Groups all CELLS by the ARMS of some POSTS (bits): how many groups. */
        int groupBy(int some) {
            Arrays.fill(groupAt, 0);
            int groups = cells > 0 ? 1 : 0;
            for (int post = 0; post < posts; post++) {
                if ((some >> post & 1) == 1) {
                    groups = splitBy(post);
                }
            }
            return groups;
        }

        private int splitBy(int post) {
            lastMark++;
            int groups = 0;
            for (int k = 0; k < cells; k++) {
                int place = groupAt[k] * ARM_COUNT + armOf(post, k) + 1;
                if (marks[place] != lastMark) {
                    marks[place] = lastMark;
                    newGroup[place] = groups;
                    groups++;
                }
                groupAt[k] = newGroup[place];
            }
            return groups;
        }

        /** How many groups the last ones would become by one more POST; they stay as they are. */
        int groupsWithPostAt(int postCell) {
            lastMark++;
            int groups = 0;
            for (int k = 0; k < cells; k++) {
                int place = groupAt[k] * ARM_COUNT + wayBetween(postCell, cellAt[k]) + 1;
                if (marks[place] != lastMark) {
                    marks[place] = lastMark;
                    groups++;
                }
            }
            return groups;
        }

        int greatestGroup() {
            countSizes();
            int most = 0;
            for (int k = 0; k < cells; k++) {
                most = Math.max(most, sizes[k]);
            }
            return most;
        }

        int groupSizeOf(int cell) {
            countSizes();
            for (int k = 0; k < cells; k++) {
                if (cellAt[k] == cell) {
                    return sizes[groupAt[k]];
                }
            }
            return 0;
        }

        private void countSizes() {
            Arrays.fill(sizes, 0);
            for (int k = 0; k < cells; k++) {
                sizes[groupAt[k]]++;
            }
        }

        int blindCells() {
            int count = 0;
            for (int k = 0; k < cells; k++) {
                count += isBlind(k) ? 1 : 0;
            }
            return count;
        }

        private boolean isBlind(int k) {
            for (int post = 0; post < posts; post++) {
                if (armOf(post, k) != NONE) {
                    return false;
                }
            }
            return true;
        }

        /** How many of the first n of some CELLS a POST leaves by the ARM that leaves most. */
        int mostByOneArm(int post, int[] some, int n) {
            Arrays.fill(byArm, 0);
            int most = 0;
            for (int i = 0; i < n && i < some.length; i++) {
                int place = armOf(post, some[i]) + 1;
                byArm[place]++;
                most = Math.max(most, byArm[place]);
            }
            return most;
        }
    }

    /** PATHS from one CELL, measured afresh for each. */
    private static final class Paths {
        private final int[] steps = new int[CELL_ROOM];
        private final int[] queue = new int[CELL_ROOM];

        void measureFrom(Land land, int from) {
            Arrays.fill(steps, NONE);
            spreadFrom(land, from);
        }

        private void spreadFrom(Land land, int from) {
            if (!land.isCell(from)) {
                return;
            }
            steps[from] = 0;
            queue[0] = from;
            int waiting = 1;
            for (int i = 0; i < waiting && i < CELL_ROOM; i++) {
                int cell = queue[i];
                for (int command = 1; command <= COMMAND_MOST; command++) {
                    int next = cell + COMMAND_STEP[command];
                    if (land.isDry(next) && steps[next] == NONE && waiting < CELL_ROOM) {
                        steps[next] = steps[cell] + 1;
                        queue[waiting] = next;
                        waiting++;
                    }
                }
            }
        }

        int stepsTo(long cell) {
            return cell >= 0 && cell < CELL_ROOM ? steps[(int) cell] : NONE;
        }

        /** The least COMMAND that leads nearer to where the PATHS were measured from; NONE. */
        int commandNearer(Land land, int at) {
            for (int command = 1; command <= COMMAND_MOST; command++) {
                int next = at + COMMAND_STEP[command];
                if (land.isDry(next) && stepsTo(next) != NONE && stepsTo(next) < stepsTo(at)) {
                    return command;
                }
            }
            return NONE;
        }

        int cellsWithin(int n) {
            int count = 0;
            for (int cell = 0; cell < CELL_ROOM; cell++) {
                count += steps[cell] != NONE && steps[cell] <= n ? 1 : 0;
            }
            return count;
        }

        int countParts(Land land) {
            Arrays.fill(steps, NONE);
            int parts = 0;
            for (int cell = 0; cell < CELL_ROOM; cell++) {
                if (land.isDry(cell) && steps[cell] == NONE) {
                    spreadFrom(land, cell);
                    parts++;
                }
            }
            return parts;
        }
    }

    /** SHELVES with ROWS, whose elements are kept as numbers that have been cut to their SORT. */
    private static final class Shelves {
        /** NONE, a ROW's SORT, or POST_MARK and a POST's number. */
        private final int[] content = new int[SHELF_ROOM];
        private final int[] length = new int[SHELF_ROOM];
        private final long[] elements = new long[SHELF_ROOM * ROW_ROOM];

        Shelves() {
            Arrays.fill(content, NONE);
        }

        int contentOf(int s) {
            return isShelf(s) ? content[s] : NONE;
        }

        int whyNoRow(int s) {
            if (!isShelf(s)) {
                return BAD;
            }
            if (content[s] >= POST_MARK) {
                return OTHER;
            }
            return content[s] == NONE ? NOTHING : FINE;
        }

        /** Why two SHELVES don't hold ROWS of one SORT. */
        int whyNoTwins(int p, int q) {
            if (!isShelf(p) || !isShelf(q)) {
                return BAD;
            }
            boolean hold = content[p] != NONE && content[q] != NONE;
            if (content[p] >= POST_MARK || content[q] >= POST_MARK || hold && content[p] != content[q]) {
                return OTHER;
            }
            return hold ? FINE : NOTHING;
        }

        /** Whether a ROW has n elements from place i on. */
        boolean hasRange(int s, int i, int n) {
            int size = sizeOf(s);
            return i >= 0 && i <= size && n >= 0 && n <= size - i;
        }

        boolean hasElement(int s, int i) {
            return i >= 0 && i < sizeOf(s);
        }

        /** How many elements a SHELF has; without a ROW 0. */
        private int sizeOf(int s) {
            return isShelf(s) && content[s] != NONE && content[s] < POST_MARK ? length[s] : 0;
        }

        long elementAt(int s, int i) {
            return hasElement(s, i) ? elements[s * ROW_ROOM + i] : 0;
        }

        void putRow(int s, int sort, int n) {
            content[s] = sort;
            length[s] = n;
            for (int i = 0; i < ROW_ROOM; i++) {
                elements[s * ROW_ROOM + i] = 0;
            }
        }

        void putPost(int s, int post) {
            content[s] = post == NONE ? NONE : POST_MARK + post;
        }

        void putElement(int s, int i, long v) {
            elements[s * ROW_ROOM + i] = cut(content[s], v);
        }

        private static long cut(int sort, long v) {
            switch (sort) {
                case BYTES:
                    return (byte) v;
                case SHORTS:
                    return (short) v;
                case INTS:
                    return (int) v;
                case BOOLEANS:
                    return v != 0 ? 1 : 0;
                default:
                    return v;
            }
        }

        void moveElements(int p, int q, int i, int j, int n) {
            System.arraycopy(elements, p * ROW_ROOM + i, elements, q * ROW_ROOM + j, n);
        }

        /** SHELVES with POSTS that aren't any more hold NOTHING. */
        void dropPostsFrom(int posts) {
            for (int s = 0; s < SHELF_ROOM; s++) {
                if (content[s] >= POST_MARK + posts) {
                    content[s] = NONE;
                }
            }
        }

        int filledCount() {
            int count = 0;
            for (int s = 0; s < SHELF_ROOM; s++) {
                count += content[s] != NONE ? 1 : 0;
            }
            return count;
        }
    }

    /** THE TAPE, and how a FEN is read from it, TOKEN by TOKEN. */
    private static final class Tape {
        int size;
        /** Where the TOKEN at hand begins; THE TAPE's size, if there is none. */
        int start;
        private int end;
        private final int[] bytes = new int[TAPE_ROOM];

        boolean hasRoom() {
            return size < TAPE_ROOM;
        }

        /** The size then; there must be room. */
        int append(int letter) {
            bytes[size] = letter;
            size++;
            return size;
        }

        /** How many STATEMENTS came to a fen; NONE: start is the FAULT. */
        int readInto(Land land) {
            end = 0;
            for (int statements = 1; statements <= TAPE_ROOM; statements++) {
                takeToken();
                if (!readStatement(land)) {
                    return NONE;
                }
                takeToken();
                if (start >= size) {
                    return statements;
                }
                if (byteAt(start) != ';') {
                    return NONE;
                }
            }
            return NONE;
        }

        private boolean readStatement(Land land) {
            if (isWord("side")) {
                return readSide(land);
            }
            if (isWord("bog")) {
                return readBog(land);
            }
            if (isWord("dry")) {
                return readDry(land);
            }
            if (isWord("home")) {
                return readHome(land);
            }
            if (isWord("post")) {
                return land.hasRoomForPost() && readPost(land);
            }
            return isWord("walker") && land.hasRoomForWalker() && readWalker(land);
        }

        private boolean readSide(Land land) {
            int n = takeNumber();
            if (!land.canHaveSide(n)) {
                return false;
            }
            land.side = n;
            return true;
        }

        private boolean readBog(Land land) {
            int cell = takeNumber();
            if (!land.isCell(cell) || !land.canBeBog(cell)) {
                return false;
            }
            land.bogs[cell] = 1;
            return true;
        }

        private boolean readDry(Land land) {
            int cell = takeNumber();
            if (!land.isCell(cell)) {
                return false;
            }
            land.bogs[cell] = 0;
            return true;
        }

        private boolean readHome(Land land) {
            int cell = takeNumber();
            if (!land.isDry(cell)) {
                return false;
            }
            land.home = cell;
            return true;
        }

        private boolean readPost(Land land) {
            int kind = takeNumber();
            if (!isKind(kind)) {
                return false;
            }
            int a = takeNumber();
            if (!isWithin(a, 0, DIGIT_MOST)) {
                return false;
            }
            int cell = takeNumber();
            if (!land.isCell(cell)) {
                return false;
            }
            land.addPost(kind, a, cell);
            return true;
        }

        private boolean readWalker(Land land) {
            int cell = takeNumber();
            if (!land.isDry(cell)) {
                return false;
            }
            int sure = takeNumber();
            if (!isWithin(sure, 0, SURE_MOST)) {
                return false;
            }
            land.addWalker(cell, sure);
            return true;
        }

        private int byteAt(int place) {
            return place >= 0 && place < size ? bytes[place] : NONE;
        }

        /** Goes on to the next TOKEN, which may be a byte that begins none, or THE TAPE's end. */
        private void takeToken() {
            start = end;
            while (start < size && byteAt(start) == ' ') {
                start++;
            }
            end = Math.min(start + 1, size);
            if (isLetter(byteAt(start))) {
                while (end < size && isLetter(byteAt(end))) {
                    end++;
                }
            } else if (isDigit(byteAt(start))) {
                while (end < size && isDigit(byteAt(end))) {
                    end++;
                }
            }
        }

        /** Goes on to the next TOKEN: its number; NONE, if it is none, or has more than 2 digits. */
        private int takeNumber() {
            takeToken();
            if (!isDigit(byteAt(start)) || end - start > 2) {
                return NONE;
            }
            int number = 0;
            for (int place = start; place < end; place++) {
                number = 10 * number + byteAt(place) - '0';
            }
            return number;
        }

        private boolean isWord(String word) {
            if (end - start != word.length()) {
                return false;
            }
            for (int i = 0; i < word.length(); i++) {
                if (byteAt(start + i) != word.charAt(i)) {
                    return false;
                }
            }
            return true;
        }

        private static boolean isLetter(int letter) {
            return letter >= 'a' && letter <= 'z';
        }

        private static boolean isDigit(int letter) {
            return letter >= '0' && letter <= '9';
        }
    }
}
