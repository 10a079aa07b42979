public final class DatalogDelta {
    public static final int COPY = 0;
    public static final int TURN = 1;
    public static final int JOIN = 2;
    public static final int BOTH = 3;
    public static final int MINUS = 4;
    public static final int BAD = -1;
    public static final int FULL = -2;
    public static final int CIRCLE = -3;

    // Relations and the numbers in couples have the same range, 0..5.
    private static final int SIZE = 6;
    private static final int ROWS = SIZE * SIZE;
    private static final int COUPLES = SIZE * SIZE * SIZE;
    private static final int MOST_RULES = 8;

    // Row SIZE * r + x is the set of the y with (x, y) in r, bit y for y,
    // so that shapes work on whole rows.
    private final int[] facts = new int[ROWS];
    private final int[] held = new int[ROWS];
    private final int[] heldBefore = new int[ROWS];

    private final int[] shapes = new int[MOST_RULES];
    private final int[] heads = new int[MOST_RULES];
    private final int[] firstBodies = new int[MOST_RULES];
    private final int[] secondBodies = new int[MOST_RULES];
    private int ruleCount = 0;

    // Scratch space: methods can't make arrays of their own.
    private final int[] dependsOn = new int[SIZE];
    private final int[] levels = new int[SIZE];

    private int gainedCount = 0;
    private int lostCount = 0;

    public DatalogDelta() {
    }

    public int addRule(int shape, int which) {
        if (shape < COPY || shape > MINUS || which < 0 || which >= COUPLES) {
            return BAD;
        }
        if (ruleCount >= MOST_RULES) {
            return FULL;
        }
        writeRule(ruleCount, shape, which);
        ruleCount++;
        if (!isLayered()) {
            ruleCount--;
            return CIRCLE;
        }
        update();
        return ruleCount;
    }

    public int dropRule(int i) {
        if (i < 0 || i >= ruleCount) {
            return BAD;
        }
        ruleCount--;
        for (int k = i; k < ruleCount; k++) {
            shapes[k] = shapes[k + 1];
            heads[k] = heads[k + 1];
            firstBodies[k] = firstBodies[k + 1];
            secondBodies[k] = secondBodies[k + 1];
        }
        update();
        return ruleCount;
    }

    public int add(int r, int x, int y) {
        if (!inRange(r) || !inRange(x) || !inRange(y)) {
            return BAD;
        }
        int answer = hasCouple(facts, r, x, y) ? 0 : 1;
        facts[SIZE * r + x] |= 1 << y;
        update();
        return answer;
    }

    public int remove(int r, int x, int y) {
        if (!inRange(r) || !inRange(x) || !inRange(y)) {
            return BAD;
        }
        int answer = hasCouple(facts, r, x, y) ? 1 : 0;
        facts[SIZE * r + x] &= ~(1 << y);
        update();
        return answer;
    }

    public boolean holds(int r, int x, int y) {
        return hasCouple(held, r, x, y);
    }

    public boolean isFact(int r, int x, int y) {
        return hasCouple(facts, r, x, y);
    }

    public int count(int r) {
        if (!inRange(r)) {
            return BAD;
        }
        int sum = 0;
        for (int x = 0; x < SIZE; x++) {
            sum += sizeOfSet(held[SIZE * r + x]);
        }
        return sum;
    }

    public int gained() {
        return gainedCount;
    }

    public int lost() {
        return lostCount;
    }

    public int from(int r, int x) {
        if (!inRange(r) || !inRange(x)) {
            return BAD;
        }
        return held[SIZE * r + x];
    }

    private static boolean inRange(int n) {
        return n >= 0 && n < SIZE;
    }

    private static boolean hasCouple(int[] rows, int r, int x, int y) {
        if (!inRange(r) || !inRange(x) || !inRange(y)) {
            return false;
        }
        return (rows[SIZE * r + x] >> y & 1) == 1;
    }

    private static int sizeOfSet(int set) {
        int size = 0;
        for (int y = 0; y < SIZE; y++) {
            size += set >> y & 1;
        }
        return size;
    }

    private void writeRule(int i, int shape, int which) {
        int a = which / SIZE % SIZE;
        shapes[i] = shape;
        heads[i] = which / (SIZE * SIZE);
        firstBodies[i] = a;
        // A b that plays no part must not count as a dependence: a stands in for it.
        secondBodies[i] = shape == COPY || shape == TURN ? a : which % SIZE;
    }

    private boolean isLayered() {
        findDependences();
        for (int i = 0; i < ruleCount; i++) {
            int h = heads[i];
            int b = secondBodies[i];
            if (shapes[i] == MINUS && (b == h || (dependsOn[b] >> h & 1) == 1)) {
                return false;
            }
        }
        return true;
    }

    private void findDependences() {
        for (int r = 0; r < SIZE; r++) {
            dependsOn[r] = 0;
        }
        for (int i = 0; i < ruleCount; i++) {
            dependsOn[heads[i]] |= 1 << firstBodies[i] | 1 << secondBodies[i];
        }
        // Warshall's order: with the way stations outermost, one pass is enough.
        for (int between = 0; between < SIZE; between++) {
            for (int r = 0; r < SIZE; r++) {
                if ((dependsOn[r] >> between & 1) == 1) {
                    dependsOn[r] |= dependsOn[between];
                }
            }
        }
    }

    private void update() {
        for (int row = 0; row < ROWS; row++) {
            heldBefore[row] = held[row];
            held[row] = facts[row];
        }
        findLevels();
        for (int level = 0; level < SIZE; level++) {
            settleLevel(level);
        }
        countChanges();
    }

    // A relation's level is the greatest number of MINUS rules, taken from head to b,
    // on a way down from it. Layered rules have no such step on a circle, so a way that
    // visits no relation twice is enough: SIZE passes find it, and levels stay below SIZE.
    private void findLevels() {
        for (int r = 0; r < SIZE; r++) {
            levels[r] = 0;
        }
        for (int pass = 0; pass < SIZE; pass++) {
            for (int i = 0; i < ruleCount; i++) {
                int step = shapes[i] == MINUS ? 1 : 0;
                raiseLevel(heads[i], levels[firstBodies[i]]);
                raiseLevel(heads[i], levels[secondBodies[i]] + step);
            }
        }
    }

    private void raiseLevel(int r, int least) {
        if (levels[r] < least) {
            levels[r] = least;
        }
    }

    // Each pass but the last brings a new couple, so COUPLES passes always reach the end.
    private void settleLevel(int level) {
        boolean changed = true;
        for (int pass = 0; pass < COUPLES && changed; pass++) {
            changed = false;
            for (int i = 0; i < ruleCount; i++) {
                if (levels[heads[i]] == level && applyRule(i)) {
                    changed = true;
                }
            }
        }
    }

    private boolean applyRule(int i) {
        boolean changed = false;
        for (int x = 0; x < SIZE; x++) {
            int row = SIZE * heads[i] + x;
            int wider = held[row] | rowGiven(i, x);
            if (wider != held[row]) {
                held[row] = wider;
                changed = true;
            }
        }
        return changed;
    }

    private int rowGiven(int i, int x) {
        int a = firstBodies[i];
        int b = secondBodies[i];
        switch (shapes[i]) {
            case COPY:
                return held[SIZE * a + x];
            case TURN:
                return turnedRow(a, x);
            case JOIN:
                return joinedRow(a, b, x);
            case BOTH:
                return held[SIZE * a + x] & held[SIZE * b + x];
            default:
                return held[SIZE * a + x] & ~held[SIZE * b + x];
        }
    }

    private int turnedRow(int a, int x) {
        int set = 0;
        for (int y = 0; y < SIZE; y++) {
            set |= (held[SIZE * a + y] >> x & 1) << y;
        }
        return set;
    }

    private int joinedRow(int a, int b, int x) {
        int set = 0;
        for (int y = 0; y < SIZE; y++) {
            if ((held[SIZE * a + x] >> y & 1) == 1) {
                set |= held[SIZE * b + y];
            }
        }
        return set;
    }

    private void countChanges() {
        gainedCount = 0;
        lostCount = 0;
        for (int row = 0; row < ROWS; row++) {
            gainedCount += sizeOfSet(held[row] & ~heldBefore[row]);
            lostCount += sizeOfSet(heldBefore[row] & ~held[row]);
        }
    }
}
