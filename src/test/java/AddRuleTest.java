/** Promise 2: the answers of addRule and what the shapes give. */
public final class AddRuleTest {
    private static final int COPY = DatalogDelta.COPY;
    private static final int TURN = DatalogDelta.TURN;
    private static final int JOIN = DatalogDelta.JOIN;
    private static final int BOTH = DatalogDelta.BOTH;
    private static final int MINUS = DatalogDelta.MINUS;
    private static final int BAD = DatalogDelta.BAD;
    private static final int FULL = DatalogDelta.FULL;
    private static final int CIRCLE = DatalogDelta.CIRCLE;

    public static void main(String[] args) {
        shapes();
        sameRelationTwice();
        unusedBodyPlaysNoPart();
        wrongNumbers();
        orderOfTests();
        circles();
        notCircles();
        manyLayers();
        bodiesAboveMinus();
        smallestSets();
        Check.finish();
    }

    private static void shapeGives(int shape, String due) {
        DatalogDelta d = new DatalogDelta();
        Check.addAll(d, 3, "01 12 23 44 50");
        Check.addAll(d, 4, "01 13 21 44 55");
        Check.same("P2 first rule", d.addRule(shape, Check.pack(5, 3, 4)), 1);
        Check.couplesAre("P2 shape " + shape, d, 5, due);
        Check.couplesAre("P2 shape " + shape + " leaves a", d, 3, "01 12 23 44 50");
        Check.couplesAre("P2 shape " + shape + " leaves b", d, 4, "01 13 21 44 55");
    }

    private static void shapes() {
        shapeGives(COPY, "01 12 23 44 50");
        shapeGives(TURN, "05 10 21 32 44");
        shapeGives(JOIN, "03 11 44 51");
        shapeGives(BOTH, "01 44");
        shapeGives(MINUS, "12 23 50");
    }

    private static void sameRelationTwice() {
        int[] shapes = {COPY, TURN, JOIN, BOTH, MINUS};
        String[] due = {"01 12", "10 21", "02", "01 12", ""};
        for (int k = 0; k < shapes.length; k++) {
            DatalogDelta d = new DatalogDelta();
            Check.addAll(d, 0, "01 12");
            d.addRule(shapes[k], Check.pack(2, 0, 0));
            Check.couplesAre("P2 a twice, shape " + shapes[k], d, 2, due[k]);
        }
    }

    private static void unusedBodyPlaysNoPart() {
        for (int b = 0; b < 6; b++) {
            DatalogDelta d = new DatalogDelta();
            d.addRule(MINUS, Check.pack(2, 1, 0));
            // If b counted here, b = 2 would make 0 depend on 2.
            Check.same("P2 COPY with unused b " + b, d.addRule(COPY, Check.pack(0, 3, b)), 2);
            Check.same("P2 TURN with unused b " + b, d.addRule(TURN, Check.pack(0, 4, b)), 3);
            Check.addAll(d, 3, "12");
            Check.addAll(d, 4, "34");
            Check.couplesAre("P2 unused b " + b, d, 0, "12 43");
        }
    }

    private static void wrongNumbers() {
        int[] wrongShapes = {-1, 5, 6, Integer.MIN_VALUE, Integer.MAX_VALUE};
        int[] wrongWhich = {-1, -36, 216, 217, Integer.MIN_VALUE, Integer.MAX_VALUE};
        DatalogDelta d = new DatalogDelta();
        for (int shape : wrongShapes) {
            Check.same("P2 shape " + shape, d.addRule(shape, 0), BAD);
        }
        for (int which : wrongWhich) {
            Check.same("P2 which " + which, d.addRule(COPY, which), BAD);
            Check.same("P2 which " + which, d.addRule(MINUS, which), BAD);
        }
        Check.same("P2 least which", d.addRule(COPY, 0), 1);
        Check.same("P2 greatest which", d.addRule(BOTH, 215), 2);
    }

    private static void orderOfTests() {
        DatalogDelta d = new DatalogDelta();
        for (int n = 1; n <= 8; n++) {
            Check.same("P2 the same rule again", d.addRule(COPY, Check.pack(1, 0, 0)), n);
        }
        Check.same("P2 ninth rule", d.addRule(COPY, Check.pack(1, 0, 0)), FULL);
        Check.same("P2 FULL before CIRCLE", d.addRule(MINUS, Check.pack(1, 0, 1)), FULL);
        Check.same("P2 BAD before FULL, shape", d.addRule(5, 0), BAD);
        Check.same("P2 BAD before FULL, which", d.addRule(COPY, 216), BAD);
        Check.same("P2 one dropped", d.dropRule(7), 7);
        Check.same("P2 CIRCLE with seven", d.addRule(MINUS, Check.pack(1, 0, 1)), CIRCLE);
        Check.same("P2 room for one", d.addRule(MINUS, Check.pack(1, 2, 0)), 8);
    }

    private static void circles() {
        DatalogDelta d = new DatalogDelta();
        Check.same("P2 b is h", d.addRule(MINUS, Check.pack(0, 1, 0)), CIRCLE);
        Check.same("P2 a, b and h are one", d.addRule(MINUS, Check.pack(0, 0, 0)), CIRCLE);
        d.addRule(MINUS, Check.pack(1, 0, 2));
        Check.same("P2 b gets to depend by COPY", d.addRule(COPY, Check.pack(2, 1, 0)), CIRCLE);
        Check.same("P2 b gets to depend by TURN", d.addRule(TURN, Check.pack(2, 1, 0)), CIRCLE);
        Check.same("P2 b gets to depend by JOIN's a", d.addRule(JOIN, Check.pack(2, 1, 0)), CIRCLE);
        Check.same("P2 b gets to depend by JOIN's b", d.addRule(JOIN, Check.pack(2, 0, 1)), CIRCLE);
        Check.same("P2 b gets to depend by BOTH's a", d.addRule(BOTH, Check.pack(2, 1, 0)), CIRCLE);
        Check.same("P2 b gets to depend by BOTH's b", d.addRule(BOTH, Check.pack(2, 0, 1)), CIRCLE);
        Check.same("P2 b gets to depend by MINUS's a", d.addRule(MINUS, Check.pack(2, 1, 0)), CIRCLE);
        Check.same("P2 b gets to depend by MINUS's b", d.addRule(MINUS, Check.pack(2, 0, 1)), CIRCLE);
        longCircle(new int[] {0, 1, 2, 3, 4, 5});
        longCircle(new int[] {5, 4, 3, 2, 1, 0});
        longCircle(new int[] {3, 0, 5, 1, 4, 2});
    }

    /** Five COPY rules make the last relation depend on the first through all others. */
    private static void longCircle(int[] order) {
        DatalogDelta d = new DatalogDelta();
        for (int k = 0; k < 5; k++) {
            d.addRule(COPY, Check.pack(order[k + 1], order[k], 0));
        }
        Check.same("P2 long circle",
            d.addRule(MINUS, Check.pack(order[0], order[0], order[5])), CIRCLE);
        Check.same("P2 the same way along the chain",
            d.addRule(MINUS, Check.pack(order[5], order[5], order[0])), 6);
        Check.same("P2 closed by a COPY", d.addRule(COPY, Check.pack(order[0], order[5], 0)), CIRCLE);
    }

    private static void notCircles() {
        DatalogDelta d = new DatalogDelta();
        Check.same("P2 COPY of itself", d.addRule(COPY, Check.pack(1, 1, 0)), 1);
        Check.same("P2 TURN of itself", d.addRule(TURN, Check.pack(1, 1, 0)), 2);
        Check.same("P2 JOIN of itself", d.addRule(JOIN, Check.pack(1, 1, 1)), 3);
        Check.same("P2 BOTH of itself", d.addRule(BOTH, Check.pack(1, 1, 1)), 4);
        Check.same("P2 MINUS with a = h", d.addRule(MINUS, Check.pack(1, 1, 0)), 5);
        Check.same("P2 MINUS with a that depends on h", d.addRule(COPY, Check.pack(2, 1, 0)), 6);
        Check.same("P2 MINUS with a that depends on h", d.addRule(MINUS, Check.pack(1, 2, 0)), 7);
        Check.addAll(d, 1, "01");
        Check.couplesAre("P2 rules on themselves", d, 1, "00 01 10 11");
        DatalogDelta e = new DatalogDelta();
        Check.same("P2 MINUS with a = b", e.addRule(MINUS, Check.pack(1, 0, 0)), 1);
        e.add(0, 2, 2);
        Check.couplesAre("P2 MINUS with a = b", e, 1, "");
        Check.same("P2 a circle that a dropped rule leaves open", e.dropRule(0), 0);
        Check.same("P2 a circle that a dropped rule leaves open",
            e.addRule(MINUS, Check.pack(0, 2, 1)), 1);
    }

    /** Each relation is 5 without the one below, so the couples come and go by turns. */
    private static void manyLayers() {
        int[][] orders = {{0, 1, 2, 3, 4}, {4, 3, 2, 1, 0}, {2, 0, 4, 1, 3}};
        for (int[] order : orders) {
            for (int first = 0; first < 2; first++) {
                DatalogDelta d = new DatalogDelta();
                for (int k = 0; k < 4; k++) {
                    int at = first == 0 ? k : 3 - k;
                    d.addRule(MINUS, Check.pack(order[at + 1], 5, order[at]));
                }
                Check.addAll(d, 5, "00 34");
                Check.addAll(d, order[0], "34");
                for (int k = 0; k < 5; k++) {
                    String due = k == 0 ? "34" : k % 2 == 1 ? "00" : "34";
                    Check.couplesAre("P2 layer " + k, d, order[k], due);
                }
            }
        }
        deepChain("11", new String[] {"11", "11", "", "11", "", "11"});
        deepChain("22", new String[] {"11", "22", "11", "", "11", ""});
    }

    /** Six levels, the most there can be; the rules stand in the order that helps least. */
    private static void deepChain(String factsOf1, String[] due) {
        DatalogDelta d = new DatalogDelta();
        for (int k = 5; k > 0; k--) {
            Check.same("P2 deep chain", d.addRule(MINUS, Check.pack(k, 0, k - 1)), 6 - k);
        }
        Check.addAll(d, 0, "11");
        Check.addAll(d, 1, factsOf1);
        for (int k = 0; k < 6; k++) {
            Check.couplesAre("P2 deep chain", d, k, due[k]);
        }
    }

    /** A relation stands as high as each of its bodies, whatever the shape. */
    private static void bodiesAboveMinus() {
        int[] shapes = {COPY, TURN, JOIN, BOTH, MINUS};
        for (int shape : shapes) {
            for (int swap = 0; swap < 2; swap++) {
                if (swap == 1 && shape == MINUS) {
                    continue;
                }
                boolean one = shape == COPY || shape == TURN;
                DatalogDelta d = new DatalogDelta();
                d.addRule(MINUS, Check.pack(5, 0, 4));
                d.addRule(shape, swap == 0 || one ? Check.pack(4, 3, 1) : Check.pack(4, 1, 3));
                d.addRule(MINUS, Check.pack(3, 0, 2));
                Check.addAll(d, 0, "00 11 22");
                Check.addAll(d, 2, "11");
                Check.addAll(d, 1, shape == MINUS ? "55" : "00 22");
                Check.couplesAre("P2 lowest MINUS, shape " + shape, d, 3, "00 22");
                Check.couplesAre("P2 between, shape " + shape, d, 4, "00 22");
                Check.couplesAre("P2 highest MINUS, shape " + shape, d, 5, "11");
            }
        }
    }

    private static void smallestSets() {
        DatalogDelta d = new DatalogDelta();
        d.addRule(COPY, Check.pack(0, 1, 0));
        d.addRule(COPY, Check.pack(1, 0, 0));
        Check.same("P2 a circle of COPY brings nothing", d.count(0) + d.count(1), 0);
        d.add(0, 4, 5);
        Check.couplesAre("P2 a circle of COPY hands on", d, 1, "45");
        d.remove(0, 4, 5);
        Check.same("P2 a circle of COPY does not hold itself up", d.count(0) + d.count(1), 0);
        DatalogDelta all = new DatalogDelta();
        all.addRule(JOIN, Check.pack(0, 0, 0));
        Check.addAll(all, 0, "01 12 23 34 45 50");
        Check.same("P2 a ring reaches all", all.count(0), 36);
        all.remove(0, 5, 0);
        all.addRule(TURN, Check.pack(1, 0, 0));
        all.addRule(MINUS, Check.pack(2, 1, 0));
        Check.same("P2 a line reaches half", all.count(0), 15);
        Check.same("P2 the turned line", all.count(2), 15);
    }
}
