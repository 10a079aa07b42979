/** Promise 12: after refused calls, an object answers all later calls as one that had none. */
public final class RefusedCallsTest {
    private static final int COPY = DatalogDelta.COPY;
    private static final int TURN = DatalogDelta.TURN;
    private static final int JOIN = DatalogDelta.JOIN;
    private static final int BOTH = DatalogDelta.BOTH;
    private static final int MINUS = DatalogDelta.MINUS;

    /** A change each: shape and which for addRule, or 10 and r, x, y for add, 11 for remove. */
    private static final int[][] STEPS = {
        {10, 0, 0, 1}, {10, 0, 1, 2}, {COPY, Check.pack(1, 0, 0)}, {JOIN, Check.pack(1, 1, 1)},
        {10, 0, 2, 3}, {MINUS, Check.pack(2, 1, 0)}, {10, 5, 4, 4}, {TURN, Check.pack(3, 2, 0)},
        {BOTH, Check.pack(4, 2, 5)}, {10, 5, 0, 2}, {MINUS, Check.pack(4, 3, 2)}, {11, 0, 1, 2},
        {COPY, Check.pack(5, 5, 0)}, {COPY, Check.pack(5, 5, 0)}, {10, 0, 1, 2},
    };

    public static void main(String[] args) {
        for (int steps = 0; steps <= STEPS.length; steps++) {
            refusedAfter(steps);
        }
        circleLeavesNoRule();
        Check.finish();
    }

    private static int step(DatalogDelta d, int[] step) {
        if (step[0] == 10) {
            return d.add(step[1], step[2], step[3]);
        }
        if (step[0] == 11) {
            return d.remove(step[1], step[2], step[3]);
        }
        return d.addRule(step[0], step[1]);
    }

    private static void refusedAfter(int steps) {
        DatalogDelta disturbed = new DatalogDelta();
        DatalogDelta calm = new DatalogDelta();
        for (int k = 0; k < steps; k++) {
            step(disturbed, STEPS[k]);
            step(calm, STEPS[k]);
        }
        refuseAll(disturbed);
        if (steps == STEPS.length) {
            Check.same("P12 FULL", disturbed.addRule(COPY, Check.pack(0, 5, 5)), DatalogDelta.FULL);
        }
        String when = ", refused calls at " + steps;
        compareFacts("right after" + when, disturbed, calm);
        compare("right after" + when, disturbed, calm);
        for (int k = steps; k < STEPS.length; k++) {
            Check.same("P12 step " + k + when, step(disturbed, STEPS[k]), step(calm, STEPS[k]));
            compareChanges("step " + k + when, disturbed, calm);
        }
        compare("last step" + when, disturbed, calm);
        for (int left = 7; left >= 0; left--) {
            Check.same("P12 rules left" + when, disturbed.dropRule(0), left);
            Check.same("P12 rules left" + when, calm.dropRule(0), left);
            compareChanges(left + " rules left" + when, disturbed, calm);
        }
        compare("no rules left" + when, disturbed, calm);
    }

    private static void refuseAll(DatalogDelta d) {
        Check.same("P12 shape", d.addRule(-1, Check.pack(0, 5, 5)), DatalogDelta.BAD);
        Check.same("P12 shape", d.addRule(5, Check.pack(0, 5, 5)), DatalogDelta.BAD);
        Check.same("P12 which", d.addRule(COPY, -1), DatalogDelta.BAD);
        Check.same("P12 which", d.addRule(COPY, 216), DatalogDelta.BAD);
        int circle = d.addRule(MINUS, Check.pack(0, 5, 0));
        Check.same("P12 circle or full", circle == DatalogDelta.CIRCLE || circle == DatalogDelta.FULL, true);
        Check.same("P12 no rule -1", d.dropRule(-1), DatalogDelta.BAD);
        Check.same("P12 no rule 8", d.dropRule(8), DatalogDelta.BAD);
        for (int n = -1; n <= 6; n += 7) {
            Check.same("P12 add", d.add(n, 1, 2), DatalogDelta.BAD);
            Check.same("P12 add", d.add(0, n, 2), DatalogDelta.BAD);
            Check.same("P12 add", d.add(0, 1, n), DatalogDelta.BAD);
            Check.same("P12 remove", d.remove(n, 1, 2), DatalogDelta.BAD);
            Check.same("P12 remove", d.remove(0, n, 2), DatalogDelta.BAD);
            Check.same("P12 remove", d.remove(0, 1, n), DatalogDelta.BAD);
            Check.same("P12 count", d.count(n), DatalogDelta.BAD);
            Check.same("P12 from", d.from(n, 0), DatalogDelta.BAD);
            Check.same("P12 from", d.from(0, n), DatalogDelta.BAD);
        }
    }

    private static void compareFacts(String when, DatalogDelta one, DatalogDelta two) {
        for (int n = 0; n < 216; n++) {
            Check.same("P12 isFact, " + when,
                one.isFact(n / 36, n / 6 % 6, n % 6), two.isFact(n / 36, n / 6 % 6, n % 6));
        }
    }

    private static void compareChanges(String when, DatalogDelta one, DatalogDelta two) {
        Check.same("P12 gained, " + when, one.gained(), two.gained());
        Check.same("P12 lost, " + when, one.lost(), two.lost());
    }

    private static void compare(String when, DatalogDelta one, DatalogDelta two) {
        compareChanges(when, one, two);
        for (int row = 0; row < 36; row++) {
            Check.same("P12 from, " + when, one.from(row / 6, row % 6), two.from(row / 6, row % 6));
        }
    }

    /** A rule refused for its circle must neither give couples nor count as a dependence. */
    private static void circleLeavesNoRule() {
        DatalogDelta d = new DatalogDelta();
        d.addRule(MINUS, Check.pack(1, 0, 2));
        d.add(1, 3, 3);
        Check.same("P12 circle", d.addRule(COPY, Check.pack(2, 1, 0)), DatalogDelta.CIRCLE);
        d.add(0, 4, 4);
        Check.couplesAre("P12 the refused rule gives nothing", d, 2, "");
        Check.same("P12 the number of rules", d.addRule(COPY, Check.pack(2, 3, 0)), 2);
        Check.same("P12 no dependence left", d.addRule(MINUS, Check.pack(3, 4, 5)), 3);
        Check.same("P12 no rule 3", d.dropRule(3), DatalogDelta.BAD);
    }
}
