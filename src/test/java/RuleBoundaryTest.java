import java.util.List;
import java.util.TreeSet;

/**
 * The boundary cases of "Terms" and of promises 1 to 3: one method for each sentence that names
 * one, with the sentence above it.
 */
public final class RuleBoundaryTest {
    private static final int COPY = DatalogDelta.COPY;
    private static final int TURN = DatalogDelta.TURN;
    private static final int JOIN = DatalogDelta.JOIN;
    private static final int BOTH = DatalogDelta.BOTH;
    private static final int MINUS = DatalogDelta.MINUS;
    private static final int BAD = DatalogDelta.BAD;
    private static final int FULL = DatalogDelta.FULL;
    private static final int CIRCLE = DatalogDelta.CIRCLE;

    /** Eight rules with head 5, each of which alone gives some couple; shape and which by turns. */
    private static final int[] EIGHT = {
        COPY, Check.pack(5, 0, 0), TURN, Check.pack(5, 1, 0), JOIN, Check.pack(5, 2, 2),
        BOTH, Check.pack(5, 3, 3), MINUS, Check.pack(5, 4, 3), JOIN, Check.pack(5, 1, 2),
        COPY, Check.pack(5, 1, 0), TURN, Check.pack(5, 2, 0),
    };
    /** What each of the eight gives over the facts of withEightBodies. */
    private static final String[] GIVEN = {"00", "21", "24", "33", "44", "13", "12", "32 43"};

    public static void main(String[] args) {
        sixRelations();
        numbersFromZeroToFive();
        upToEightRules();
        emptyBodies();
        fullBodies();
        dependsOnBOnlyIfTheRuleHasOne();
        dependsFurther();
        minusWhoseBIsItsHead();
        minusWhoseBDependsOnItsHead();
        minusWhoseAIsOrDependsOnItsHead();
        alwaysLayered();
        smallestSets();
        smallestSetsByManyRounds();
        lowestLayersFirst();
        layersOfTheRulesThatAreThere();
        newObject();
        addsAtTheEnd();
        shapeOutside();
        whichOutside();
        shapeAndWhichAtTheirEnds();
        unusedBGivesNothing();
        badBeforeFull();
        badBeforeCircle();
        fullBeforeCircle();
        answersTheNumberOfRules();
        laterRulesMoveDown();
        headsMoveDown();
        noSuchRule();
        answersTheNumberOfRulesLeft();
        Check.finish();
    }

    private static DatalogDelta withEightBodies() {
        DatalogDelta d = new DatalogDelta();
        Check.addAll(d, 0, "00");
        Check.addAll(d, 1, "12");
        Check.addAll(d, 2, "23 34");
        Check.addAll(d, 3, "33");
        Check.addAll(d, 4, "44");
        return d;
    }

    private static int addOfEight(DatalogDelta d, int k) {
        return d.addRule(EIGHT[2 * k], EIGHT[2 * k + 1]);
    }

    private static void fill(DatalogDelta d, int r) {
        for (int n = 0; n < 36; n++) {
            d.add(r, n / 6, n % 6);
        }
    }

    /** Terms: "There are six RELATIONS, 0 to 5." Promise 2: "which is 36 * h + 6 * a + b". */
    private static void sixRelations() {
        for (int which = 0; which < 216; which++) {
            int h = which / 36;
            int a = which / 6 % 6;
            int b = which % 6;
            DatalogDelta d = new DatalogDelta();
            Check.same("Terms JOIN " + which, d.addRule(JOIN, which), 1);
            d.add(a, 1, 4);
            d.add(b, 4, 2);
            for (int r = 0; r < 6; r++) {
                Check.same("Terms JOIN " + which + " gives to " + r, d.holds(r, 1, 2), r == h);
            }
        }
    }

    /** Terms: "A relation holds for some couples (x, y) of numbers from 0 to 5." */
    private static void numbersFromZeroToFive() {
        for (int x = 0; x < 6; x++) {
            for (int y = 0; y < 6; y++) {
                DatalogDelta d = new DatalogDelta();
                d.addRule(COPY, Check.pack(1, 0, 0));
                d.addRule(TURN, Check.pack(2, 0, 0));
                d.addRule(JOIN, Check.pack(3, 0, 2));
                d.addRule(BOTH, Check.pack(4, 0, 1));
                d.addRule(MINUS, Check.pack(5, 0, 3));
                d.add(0, x, y);
                String couple = "" + x + y;
                Check.couplesAre("Terms COPY of " + couple, d, 1, couple);
                Check.couplesAre("Terms TURN of " + couple, d, 2, "" + y + x);
                Check.couplesAre("Terms JOIN of " + couple, d, 3, "" + x + x);
                Check.couplesAre("Terms BOTH of " + couple, d, 4, couple);
                Check.couplesAre("Terms MINUS of " + couple, d, 5, x == y ? "" : couple);
            }
        }
    }

    /** Terms: "a list of up to 8 RULES". Each of eight rules comes first once, and last once. */
    private static void upToEightRules() {
        for (int first = 0; first < 8; first++) {
            DatalogDelta d = withEightBodies();
            for (int k = 0; k < 8; k++) {
                Check.same("Terms rule " + (k + 1), addOfEight(d, (first + k) % 8), k + 1);
            }
            Check.same("Terms a ninth rule", addOfEight(d, first), FULL);
            Check.couplesAre("Terms eight rules, " + first + " first", d, 5, "00 12 13 21 24 32 33 43 44");
        }
    }

    /** Terms, the five shapes: bodies that hold nothing. */
    private static void emptyBodies() {
        int[] shapes = {COPY, TURN, JOIN, BOTH, MINUS};
        for (int shape : shapes) {
            DatalogDelta d = new DatalogDelta();
            d.addRule(shape, Check.pack(2, 0, 1));
            Check.couplesAre("Terms both empty, shape " + shape, d, 2, "");
            Check.addAll(d, 1, "00 12 55");
            Check.couplesAre("Terms a empty, shape " + shape, d, 2, "");
            DatalogDelta e = new DatalogDelta();
            e.addRule(shape, Check.pack(2, 0, 1));
            Check.addAll(e, 0, "00 12 55");
            String due = shape == TURN ? "00 21 55" : shape == JOIN || shape == BOTH ? "" : "00 12 55";
            Check.couplesAre("Terms b empty, shape " + shape, e, 2, due);
        }
    }

    /** Terms, the five shapes: bodies that hold all 36 couples. */
    private static void fullBodies() {
        int[] shapes = {COPY, TURN, JOIN, BOTH, MINUS};
        for (int shape : shapes) {
            DatalogDelta d = new DatalogDelta();
            fill(d, 0);
            fill(d, 1);
            d.addRule(shape, Check.pack(2, 0, 1));
            Check.same("Terms full bodies, shape " + shape, d.count(2), shape == MINUS ? 0 : 36);
        }
        DatalogDelta d = new DatalogDelta();
        fill(d, 0);
        d.addRule(MINUS, Check.pack(2, 0, 1));
        Check.same("Terms all but nothing", d.count(2), 36);
        d.add(1, 5, 5);
        Check.same("Terms all but one", d.count(2), 35);
    }

    /** Terms: "Relation h DEPENDS on a, and on b if the rule has one, by each rule with head h". */
    private static void dependsOnBOnlyIfTheRuleHasOne() {
        int[] shapes = {COPY, TURN, JOIN, BOTH, MINUS};
        for (int shape : shapes) {
            DatalogDelta d = new DatalogDelta();
            d.addRule(MINUS, Check.pack(2, 1, 0));
            boolean hasB = shape != COPY && shape != TURN;
            Check.same("Terms b is the head, shape " + shape,
                d.addRule(shape, Check.pack(0, 3, 2)), hasB ? CIRCLE : 2);
            Check.same("Terms a is the head, shape " + shape, d.addRule(shape, Check.pack(0, 2, 3)), CIRCLE);
        }
        DatalogDelta d = new DatalogDelta();
        d.addRule(COPY, Check.pack(0, 3, 0));
        d.addRule(COPY, Check.pack(0, 2, 0));
        d.addRule(COPY, Check.pack(0, 4, 0));
        Check.same("Terms by each rule: the first", d.addRule(MINUS, Check.pack(3, 1, 0)), CIRCLE);
        Check.same("Terms by each rule: the second", d.addRule(MINUS, Check.pack(2, 1, 0)), CIRCLE);
        Check.same("Terms by each rule: the last", d.addRule(MINUS, Check.pack(4, 1, 0)), CIRCLE);
        Check.same("Terms by no rule", d.addRule(MINUS, Check.pack(5, 1, 0)), 4);
    }

    /** Terms: "it depends, further, on whatever these depend on." From one step to all five. */
    private static void dependsFurther() {
        int[][] orders = {{0, 1, 2, 3, 4, 5}, {5, 4, 3, 2, 1, 0}, {2, 5, 0, 4, 1, 3}};
        for (int[] order : orders) {
            for (int steps = 1; steps <= 5; steps++) {
                for (int backwards = 0; backwards < 2; backwards++) {
                    DatalogDelta d = new DatalogDelta();
                    for (int k = 0; k < steps; k++) {
                        int at = backwards == 0 ? k : steps - 1 - k;
                        d.addRule(TURN, Check.pack(order[at + 1], order[at], 0));
                    }
                    String what = "Terms " + steps + " steps";
                    int low = order[0];
                    int high = order[steps];
                    Check.same(what + " up", d.addRule(MINUS, Check.pack(low, low, high)), CIRCLE);
                    Check.same(what + " down", d.addRule(MINUS, Check.pack(high, high, low)), steps + 1);
                }
            }
        }
    }

    /** Terms: "there is no MINUS rule whose b is its h". */
    private static void minusWhoseBIsItsHead() {
        for (int n = 0; n < 36; n++) {
            DatalogDelta d = new DatalogDelta();
            Check.same("Terms MINUS " + n / 6 + " " + n % 6 + " " + n / 6,
                d.addRule(MINUS, Check.pack(n / 6, n % 6, n / 6)), CIRCLE);
            Check.same("Terms MINUS " + n / 6 + " " + n % 6 + " " + n / 6 + " left no rule",
                d.dropRule(0), BAD);
        }
    }

    /** Terms: "or depends on its h". The MINUS rule comes first, and comes last. */
    private static void minusWhoseBDependsOnItsHead() {
        int[] shapes = {COPY, TURN, JOIN, BOTH, MINUS};
        for (int shape : shapes) {
            for (int place = 0; place < 2; place++) {
                if (place == 1 && (shape == COPY || shape == TURN)) {
                    continue;
                }
                int other = place == 0 ? Check.pack(4, 3, 5) : Check.pack(4, 5, 3);
                String what = "Terms shape " + shape + ", body " + place;
                DatalogDelta first = new DatalogDelta();
                Check.same(what, first.addRule(MINUS, Check.pack(3, 0, 4)), 1);
                Check.same(what + ", MINUS first", first.addRule(shape, other), CIRCLE);
                DatalogDelta last = new DatalogDelta();
                Check.same(what, last.addRule(shape, other), 1);
                Check.same(what + ", MINUS last", last.addRule(MINUS, Check.pack(3, 0, 4)), CIRCLE);
            }
        }
    }

    /** Terms: only the b of a MINUS rule is spoken of; its a may be its h, or depend on it. */
    private static void minusWhoseAIsOrDependsOnItsHead() {
        DatalogDelta d = new DatalogDelta();
        Check.same("Terms a is h", d.addRule(MINUS, Check.pack(1, 1, 0)), 1);
        Check.same("Terms a depends on h", d.addRule(COPY, Check.pack(2, 1, 0)), 2);
        Check.same("Terms a depends on h", d.addRule(MINUS, Check.pack(1, 2, 0)), 3);
        Check.addAll(d, 1, "23");
        Check.addAll(d, 0, "23 45");
        Check.addAll(d, 2, "45 51");
        Check.couplesAre("Terms a depends on h", d, 1, "23 51");
        Check.couplesAre("Terms a depends on h", d, 2, "23 45 51");
    }

    /** Terms: "The rules are always layered." Not the new rule alone is looked at, and no dropped one. */
    private static void alwaysLayered() {
        for (int place = 0; place < 7; place++) {
            DatalogDelta d = new DatalogDelta();
            for (int k = 0; k < 7; k++) {
                d.addRule(k == place ? MINUS : COPY, k == place ? Check.pack(1, 0, 2) : Check.pack(4, 4, 0));
            }
            Check.same("Terms a COPY that closes a circle", d.addRule(COPY, Check.pack(2, 1, 0)), CIRCLE);
            Check.same("Terms the MINUS goes", d.dropRule(place), 6);
            Check.same("Terms the circle is no MINUS any longer", d.addRule(COPY, Check.pack(2, 1, 0)), 7);
            Check.same("Terms now the MINUS would close it", d.addRule(MINUS, Check.pack(1, 0, 2)), CIRCLE);
        }
    }

    /** Terms: "each relation is the smallest set that has its facts and the couples that its rules give". */
    private static void smallestSets() {
        int[] shapes = {COPY, TURN, JOIN, BOTH};
        for (int shape : shapes) {
            DatalogDelta d = new DatalogDelta();
            d.addRule(shape, Check.pack(0, 1, 1));
            d.addRule(shape, Check.pack(1, 0, 0));
            Check.same("Terms nothing comes of nothing", d.count(0) + d.count(1), 0);
            d.add(0, 3, 3);
            Check.couplesAre("Terms handed on", d, 1, "33");
            d.remove(0, 3, 3);
            Check.same("Terms a circle does not hold itself up, shape " + shape, d.count(0) + d.count(1), 0);
        }
    }

    /** The same, where the rules must run over the list some fifty times: a couple goes about one relation each time. */
    private static void smallestSetsByManyRounds() {
        DatalogDelta d = new DatalogDelta();
        for (int k = 4; k > 1; k--) {
            d.addRule(COPY, Check.pack(k, k - 1, 0));
        }
        d.addRule(TURN, Check.pack(1, 0, 0));
        d.addRule(JOIN, Check.pack(0, 4, 5));
        Check.addAll(d, 5, "01 12 23 34 45 50");
        d.add(0, 0, 0);
        Check.couplesAre("Terms many rounds", d, 0, "00 01 11 12 22 23 33 34 44 45 50 55");
        Check.couplesAre("Terms many rounds", d, 4, "00 05 10 11 21 22 32 33 43 44 54 55");
        d.remove(5, 5, 0);
        Check.couplesAre("Terms fewer rounds", d, 0, "00 01 11 12 22 23 33 34 44 45 55");
    }

    /** Terms: "first the relations that depend on no MINUS are settled, then those that depend on them, and so on". */
    private static void lowestLayersFirst() {
        int[][] orders = {{0, 1, 2, 3, 4, 5}, {5, 4, 3, 2, 1, 0}, {3, 1, 5, 0, 4, 2}};
        for (int[] order : orders) {
            for (int backwards = 0; backwards < 2; backwards++) {
                DatalogDelta d = new DatalogDelta();
                for (int k = 1; k < 6; k++) {
                    int at = backwards == 0 ? k : 6 - k;
                    d.addRule(MINUS, Check.pack(order[at], order[0], order[at - 1]));
                }
                d.add(order[0], 2, 2);
                d.add(order[1], 2, 2);
                for (int layer = 1; layer < 6; layer++) {
                    Check.couplesAre("Terms layer " + layer, d, order[layer], layer % 2 == 1 ? "22" : "");
                }
                d.remove(order[1], 2, 2);
                for (int layer = 1; layer < 6; layer++) {
                    Check.couplesAre("Terms layer " + layer, d, order[layer], layer % 2 == 1 ? "" : "22");
                }
            }
        }
    }

    /** The same, where rules with other layers were there before. */
    private static void layersOfTheRulesThatAreThere() {
        DatalogDelta d = new DatalogDelta();
        for (int round = 0; round < 4; round++) {
            boolean up = round % 2 == 0;
            int low = up ? 0 : 5;
            for (int k = 1; k < 6; k++) {
                int head = up ? k : 5 - k;
                int below = up ? k - 1 : 6 - k;
                Check.same("Terms layers anew", d.addRule(MINUS, Check.pack(head, low, below)), k);
            }
            d.add(low, 3, 1);
            for (int layer = 1; layer < 6; layer++) {
                Check.same("Terms round " + round + ", layer " + layer,
                    d.holds(up ? layer : 5 - layer, 3, 1), layer % 2 == 0);
            }
            d.remove(low, 3, 1);
            for (int left = 4; left >= 0; left--) {
                d.dropRule(left);
            }
        }
    }

    /** Promise 1: "No facts, no rules." */
    private static void newObject() {
        DatalogDelta d = new DatalogDelta();
        for (int n = 0; n < 216; n++) {
            Check.same("P1 no facts", d.isFact(n / 36, n / 6 % 6, n % 6), false);
            Check.same("P1 nothing holds", d.holds(n / 36, n / 6 % 6, n % 6), false);
        }
        for (int i = 0; i < 8; i++) {
            Check.same("P1 no rule " + i, d.dropRule(i), BAD);
        }
        Check.same("P1 room for the first rule", d.addRule(COPY, Check.pack(1, 0, 0)), 1);
    }

    /** Promise 2: "Adds a rule at the end of the list." */
    private static void addsAtTheEnd() {
        for (int n = 0; n < 8; n++) {
            DatalogDelta d = withEightBodies();
            for (int k = 0; k < n; k++) {
                addOfEight(d, k);
            }
            String before = Check.couples(d, 5);
            addOfEight(d, n);
            Check.same("P2 the rule added last is rule " + n, d.dropRule(n), n);
            Check.couplesAre("P2 the rule added last is rule " + n, d, 5, before);
        }
    }

    /** Promise 2: "shape outside 0..4 [...]: BAD". */
    private static void shapeOutside() {
        int[] outside = {-1, 5, -2, 6, 8, -5, 256, 260, Integer.MIN_VALUE, Integer.MAX_VALUE};
        DatalogDelta d = new DatalogDelta();
        for (int shape : outside) {
            Check.same("P2 shape " + shape, d.addRule(shape, Check.pack(1, 0, 2)), BAD);
        }
        Check.same("P2 no rule came of it", d.dropRule(0), BAD);
    }

    /** Promise 2: "which outside 0..215: BAD", for each shape. */
    private static void whichOutside() {
        int[] outside = {-1, 216, -36, -216, 217, 251, 256, 432, 65536, Integer.MIN_VALUE, Integer.MAX_VALUE};
        DatalogDelta d = new DatalogDelta();
        for (int which : outside) {
            for (int shape = 0; shape < 5; shape++) {
                Check.same("P2 which " + which + ", shape " + shape, d.addRule(shape, which), BAD);
            }
        }
        Check.same("P2 no rule came of it", d.dropRule(0), BAD);
    }

    /** Promise 2: 0 and 4 are shapes, 0 and 215 name relations, so these are not BAD. */
    private static void shapeAndWhichAtTheirEnds() {
        DatalogDelta d = new DatalogDelta();
        Check.same("P2 least shape, least which", d.addRule(0, 0), 1);
        Check.same("P2 least shape, greatest which", d.addRule(0, 215), 2);
        Check.same("P2 greatest shape, which 1", d.addRule(4, 1), 3);
        Check.same("P2 greatest shape, which 214", d.addRule(4, 214), 4);
        Check.same("P2 greatest shape, least which", d.addRule(4, 0), CIRCLE);
        Check.same("P2 greatest shape, greatest which", d.addRule(4, 215), CIRCLE);
    }

    /** Promise 2: "for COPY and TURN b plays no part". */
    private static void unusedBGivesNothing() {
        for (int b = 0; b < 6; b++) {
            DatalogDelta d = new DatalogDelta();
            d.addRule(COPY, Check.pack(4, 0, b));
            d.addRule(TURN, Check.pack(5, 0, b));
            d.add(0, 1, 2);
            if (b != 0) {
                d.add(b, 3, 3);
            }
            Check.couplesAre("P2 COPY with b " + b, d, 4, b == 4 ? "12 33" : "12");
            Check.couplesAre("P2 TURN with b " + b, d, 5, b == 5 ? "21 33" : "21");
        }
    }

    private static DatalogDelta withRules(int n) {
        DatalogDelta d = new DatalogDelta();
        for (int k = 0; k < n; k++) {
            d.addRule(COPY, Check.pack(1, 0, 0));
        }
        return d;
    }

    /** Promise 2: "Tested in this order: [...] BAD; 8 rules are there: FULL". */
    private static void badBeforeFull() {
        DatalogDelta d = withRules(8);
        Check.same("P2 shape -1 with 8 rules", d.addRule(-1, 0), BAD);
        Check.same("P2 shape 5 with 8 rules", d.addRule(5, 0), BAD);
        Check.same("P2 which -1 with 8 rules", d.addRule(COPY, -1), BAD);
        Check.same("P2 which 216 with 8 rules", d.addRule(COPY, 216), BAD);
        Check.same("P2 all well with 8 rules", d.addRule(COPY, 0), FULL);
    }

    /** Promise 2: "Tested in this order: [...] BAD; [...] CIRCLE". Cut down to size, these would be circles. */
    private static void badBeforeCircle() {
        int circle = Check.pack(1, 2, 1);
        DatalogDelta d = withRules(1);
        Check.same("P2 which above", d.addRule(MINUS, 216 + circle), BAD);
        Check.same("P2 which below", d.addRule(MINUS, circle - 216), BAD);
        Check.same("P2 shape above", d.addRule(MINUS + 5, circle), BAD);
        Check.same("P2 shape below", d.addRule(MINUS - 5, circle), BAD);
        Check.same("P2 all well but the circle", d.addRule(MINUS, circle), CIRCLE);
    }

    /** Promise 2: "Tested in this order: [...] FULL; the rules would not be layered: CIRCLE". */
    private static void fullBeforeCircle() {
        int circle = Check.pack(1, 2, 1);
        DatalogDelta d = withRules(8);
        Check.same("P2 a circle with 8 rules", d.addRule(MINUS, circle), FULL);
        d.dropRule(0);
        Check.same("P2 a circle with 7 rules", d.addRule(MINUS, circle), CIRCLE);
    }

    /** Promise 2: "Else answers the number of rules." From the first to the eighth, and again after a drop. */
    private static void answersTheNumberOfRules() {
        DatalogDelta d = withRules(0);
        for (int n = 1; n <= 8; n++) {
            Check.same("P2 rule " + n, d.addRule(BOTH, Check.pack(1, 0, 0)), n);
        }
        d.dropRule(3);
        d.dropRule(0);
        Check.same("P2 the seventh again", d.addRule(BOTH, Check.pack(1, 0, 0)), 7);
        Check.same("P2 the eighth again", d.addRule(BOTH, Check.pack(1, 0, 0)), 8);
        Check.same("P2 no ninth", d.addRule(BOTH, Check.pack(1, 0, 0)), FULL);
    }

    /** Promise 3: "Takes rule i (from 0) out; later ones move one down." Each of eight, and the two at its place then. */
    private static void laterRulesMoveDown() {
        for (int i = 0; i < 8; i++) {
            DatalogDelta d = withEightBodies();
            boolean[] out = new boolean[8];
            for (int k = 0; k < 8; k++) {
                addOfEight(d, k);
            }
            for (int next = i; next < 8 && next < i + 3; next++) {
                d.dropRule(i);
                out[next] = true;
                Check.couplesAre("P3 " + (next - i + 1) + " dropped at " + i, d, 5, given(out));
            }
        }
    }

    /** The same, where each rule has a head of its own. */
    private static void headsMoveDown() {
        for (int i = 0; i < 5; i++) {
            DatalogDelta d = new DatalogDelta();
            for (int h = 1; h < 6; h++) {
                d.addRule(COPY, Check.pack(h, 0, 0));
            }
            d.add(0, 1, 2);
            for (int next = i; next < 5; next++) {
                d.dropRule(i);
                for (int k = 0; k < 5; k++) {
                    Check.same("P3 rule " + k + ", " + (next - i + 1) + " dropped at " + i,
                        d.count(k + 1), k < i || k > next ? 1 : 0);
                }
            }
        }
    }

    private static String given(boolean[] out) {
        TreeSet<String> couples = new TreeSet<>();
        for (int k = 0; k < 8; k++) {
            if (!out[k]) {
                couples.addAll(List.of(GIVEN[k].split(" ")));
            }
        }
        return String.join(" ", couples);
    }

    /** Promise 3: "There is no rule i: BAD." With no rule, with each number of rules, and with eight. */
    private static void noSuchRule() {
        for (int n = 0; n <= 8; n++) {
            DatalogDelta d = withRules(n);
            int[] none = {-1, n, n + 1, 8, 9, -n - 1, n + 256, Integer.MIN_VALUE, Integer.MAX_VALUE};
            for (int i : none) {
                Check.same("P3 rule " + i + " of " + n, d.dropRule(i), BAD);
            }
            if (n > 0) {
                Check.same("P3 the last of " + n, d.dropRule(n - 1), n - 1);
                Check.same("P3 the last of " + n + " again", d.dropRule(n - 1), BAD);
            }
        }
    }

    /** Promise 3: "Else answers the number of rules left." From eight down to none. */
    private static void answersTheNumberOfRulesLeft() {
        DatalogDelta first = withRules(8);
        DatalogDelta last = withRules(8);
        for (int left = 7; left >= 0; left--) {
            Check.same("P3 left when the first goes", first.dropRule(0), left);
            Check.same("P3 left when the last goes", last.dropRule(left), left);
        }
        Check.same("P3 none left", first.dropRule(0), BAD);
    }
}
