import java.util.ArrayList;
import java.util.List;

/**
 * The boundary cases of promises 4 to 8 and 11: one method for each sentence that names one, with
 * the sentence above it.
 */
public final class FactBoundaryTest {
    private static final int BAD = DatalogDelta.BAD;
    private static final int[] OUTSIDE = {-1, 6, 7, -6, 12, 31, 32, 36, -32, 64, 216, 256, 65536,
        Integer.MIN_VALUE, Integer.MAX_VALUE};

    /** Numbers outside 0..5 whose places, reckoned as 36 * r + 6 * x + y, fall inside nonetheless. */
    private static final int[][] ASTRAY = {
        {-1, 6, 0}, {-1, 11, 5}, {6, -6, 0}, {6, -1, 5}, {0, -1, 6}, {0, 6, -6}, {5, 6, -1}, {1, 0, -1},
        {0, 0, 35}, {0, 35, 0}, {0, 35, 5}, {-1, 36, 36}, {2, 3, 32}, {2, 3, -32}, {2, 3, 35},
        // Six times these r wraps around to a small number.
        {715827883, 0, 0}, {1431655766, -2, 0}, {-715827882, -4, 0}, {-1431655765, 0, 0},
        {Integer.MIN_VALUE, 0, 0}, {Integer.MIN_VALUE, Integer.MIN_VALUE, Integer.MIN_VALUE},
        {0, Integer.MIN_VALUE, 0}, {0, 715827883, 0}, {0, 0, Integer.MIN_VALUE},
    };

    public static void main(String[] args) {
        addAtTheEnds();
        addOutside();
        addOfAFact();
        addOfWhatIsOnlyGiven();
        removeAtTheEnds();
        removeOutside();
        removeOfNoFact();
        removeOfWhatIsOnlyGiven();
        removeOfAFactThatIsAlsoGiven();
        holdsAtTheEnds();
        holdsOutside();
        isFactAtTheEnds();
        isFactOutside();
        isFactOfWhatIsOnlyGiven();
        countFromNoneToAll();
        countOfFactsThatAreAlsoGiven();
        countOutside();
        fromNoneToAll();
        fromSpeaksOfGivenCouples();
        fromOutside();
        Check.finish();
    }

    /** All 216 facts, so that a place gone astray meets something that holds. */
    private static DatalogDelta full() {
        DatalogDelta d = new DatalogDelta();
        for (int n = 0; n < 216; n++) {
            d.add(n / 36, n / 6 % 6, n % 6);
        }
        return d;
    }

    /** Relation 1 has all that relation 0 has. */
    private static DatalogDelta withCopy() {
        DatalogDelta d = new DatalogDelta();
        d.addRule(DatalogDelta.COPY, Check.pack(1, 0, 0));
        return d;
    }

    /** Answers how many of the 216 are facts. */
    private static int facts(DatalogDelta d) {
        int facts = 0;
        for (int n = 0; n < 216; n++) {
            facts += d.isFact(n / 36, n / 6 % 6, n % 6) ? 1 : 0;
        }
        return facts;
    }

    /** All r, x, y of which one is outside, two are, or all three are. */
    private static int[][] outside() {
        List<int[]> all = new ArrayList<>(List.of(ASTRAY));
        for (int n : OUTSIDE) {
            for (int places = 1; places < 8; places++) {
                all.add(new int[] {(places & 1) == 0 ? 0 : n, (places & 2) == 0 ? 5 : n, (places & 4) == 0 ? 3 : n});
            }
        }
        return all.toArray(new int[0][]);
    }

    private static String told(String name, int[] at) {
        return name + "(" + at[0] + ", " + at[1] + ", " + at[2] + ")";
    }

    /** Promise 4: 0 and 5 are numbers for add. "Makes (r, x, y) a fact", that one and no other. */
    private static void addAtTheEnds() {
        for (int corner = 0; corner < 8; corner++) {
            int r = (corner & 1) * 5;
            int x = (corner >> 1 & 1) * 5;
            int y = (corner >> 2) * 5;
            DatalogDelta d = new DatalogDelta();
            Check.same("P4 corner " + corner, d.add(r, x, y), 1);
            Check.same("P4 corner " + corner + " is a fact", d.isFact(r, x, y), true);
            Check.same("P4 corner " + corner + " alone", facts(d), 1);
        }
    }

    /** Promise 4: "A number outside 0..5: BAD." */
    private static void addOutside() {
        DatalogDelta d = new DatalogDelta();
        for (int[] at : outside()) {
            Check.same(told("P4 add", at), d.add(at[0], at[1], at[2]), BAD);
        }
        Check.same("P4 no fact came of it", facts(d), 0);
    }

    /** Promise 4: "Answers 1 if it was none, else 0." */
    private static void addOfAFact() {
        DatalogDelta d = new DatalogDelta();
        for (int n = 0; n < 216; n++) {
            Check.same("P4 the first time", d.add(n / 36, n / 6 % 6, n % 6), 1);
        }
        for (int n = 0; n < 216; n++) {
            Check.same("P4 the second time", d.add(n / 36, n / 6 % 6, n % 6), 0);
        }
        d.remove(0, 0, 0);
        Check.same("P4 after a remove", d.add(0, 0, 0), 1);
    }

    /** Promise 4: "if it was none" speaks of facts; a couple that only a rule gives is none. */
    private static void addOfWhatIsOnlyGiven() {
        DatalogDelta d = withCopy();
        d.add(0, 5, 0);
        Check.same("P4 what is only given", d.add(1, 5, 0), 1);
        Check.same("P4 what is given and a fact", d.add(1, 5, 0), 0);
    }

    /** Promise 5: 0 and 5 are numbers for remove. "Makes (r, x, y) no fact any longer", that one and no other. */
    private static void removeAtTheEnds() {
        for (int corner = 0; corner < 8; corner++) {
            int r = (corner & 1) * 5;
            int x = (corner >> 1 & 1) * 5;
            int y = (corner >> 2) * 5;
            DatalogDelta d = full();
            Check.same("P5 corner " + corner, d.remove(r, x, y), 1);
            Check.same("P5 corner " + corner + " is no fact", d.isFact(r, x, y), false);
            Check.same("P5 corner " + corner + " alone", facts(d), 215);
        }
    }

    /** Promise 5: "A number outside 0..5: BAD." */
    private static void removeOutside() {
        DatalogDelta d = full();
        int[][] outside = outside();
        int half = outside.length / 2;
        for (int k = 0; k < half; k++) {
            Check.same(told("P5 remove", outside[k]), d.remove(outside[k][0], outside[k][1], outside[k][2]), BAD);
        }
        Check.same("P5 no fact went", facts(d), 216);
        DatalogDelta e = full();
        for (int k = half; k < outside.length; k++) {
            Check.same(told("P5 remove", outside[k]), e.remove(outside[k][0], outside[k][1], outside[k][2]), BAD);
        }
        Check.same("P5 no fact went", facts(e), 216);
    }

    /** Promise 5: "Answers 1 if it was one, else 0." */
    private static void removeOfNoFact() {
        DatalogDelta d = new DatalogDelta();
        Check.same("P5 from nothing", d.remove(0, 0, 0), 0);
        Check.same("P5 from nothing", d.remove(5, 5, 5), 0);
        d.add(5, 5, 5);
        d.add(5, 5, 5);
        Check.same("P5 the same couple, another relation", d.remove(4, 5, 5), 0);
        Check.same("P5 a fact added twice goes at once", d.remove(5, 5, 5), 1);
        Check.same("P5 a second time", d.remove(5, 5, 5), 0);
        Check.same("P5 no fact is left", facts(d), 0);
    }

    /** Promise 5: "if it was one" speaks of facts; a couple that only a rule gives is none, and stays. */
    private static void removeOfWhatIsOnlyGiven() {
        DatalogDelta d = withCopy();
        d.add(0, 0, 5);
        Check.same("P5 what is only given", d.remove(1, 0, 5), 0);
        Check.same("P5 it is given still", d.holds(1, 0, 5), true);
    }

    /** Promise 5: "Makes (r, x, y) no fact any longer"; a rule may give the couple still. */
    private static void removeOfAFactThatIsAlsoGiven() {
        DatalogDelta d = withCopy();
        d.add(0, 0, 5);
        d.add(1, 0, 5);
        Check.same("P5 what is given and a fact", d.remove(1, 0, 5), 1);
        Check.same("P5 no fact any longer", d.isFact(1, 0, 5), false);
        Check.same("P5 given still", d.holds(1, 0, 5), true);
    }

    /** Promise 6: "Whether (x, y) is in relation r", at 0 and 5 too. */
    private static void holdsAtTheEnds() {
        for (int corner = 0; corner < 8; corner++) {
            DatalogDelta d = new DatalogDelta();
            d.add((corner & 1) * 5, (corner >> 1 & 1) * 5, (corner >> 2) * 5);
            for (int n = 0; n < 8; n++) {
                Check.same("P6 corner " + n + " of " + corner,
                    d.holds((n & 1) * 5, (n >> 1 & 1) * 5, (n >> 2) * 5), n == corner);
            }
        }
    }

    /** Promise 6: "false for numbers outside 0..5." */
    private static void holdsOutside() {
        DatalogDelta d = full();
        for (int[] at : outside()) {
            Check.same(told("P6 holds", at), d.holds(at[0], at[1], at[2]), false);
        }
    }

    /** Promise 7: "Whether (r, x, y) is a fact", at 0 and 5 too. */
    private static void isFactAtTheEnds() {
        for (int corner = 0; corner < 8; corner++) {
            DatalogDelta d = new DatalogDelta();
            d.add((corner & 1) * 5, (corner >> 1 & 1) * 5, (corner >> 2) * 5);
            for (int n = 0; n < 8; n++) {
                Check.same("P7 corner " + n + " of " + corner,
                    d.isFact((n & 1) * 5, (n >> 1 & 1) * 5, (n >> 2) * 5), n == corner);
            }
        }
    }

    /** Promise 7: "false for numbers outside 0..5." */
    private static void isFactOutside() {
        DatalogDelta d = full();
        for (int[] at : outside()) {
            Check.same(told("P7 isFact", at), d.isFact(at[0], at[1], at[2]), false);
        }
    }

    /** Promise 7: "Whether (r, x, y) is a fact", not whether it holds. */
    private static void isFactOfWhatIsOnlyGiven() {
        DatalogDelta d = withCopy();
        d.add(0, 4, 2);
        Check.same("P7 what is only given holds", d.holds(1, 4, 2), true);
        Check.same("P7 what is only given is no fact", d.isFact(1, 4, 2), false);
    }

    /** Promise 8: "The number of couples in relation r", from none to all 36, in each relation. */
    private static void countFromNoneToAll() {
        for (int r = 0; r < 6; r++) {
            DatalogDelta d = new DatalogDelta();
            Check.same("P8 none in " + r, d.count(r), 0);
            for (int n = 0; n < 36; n++) {
                d.add(r, n / 6, n % 6);
                Check.same("P8 count of " + r, d.count(r), n + 1);
            }
            for (int other = 0; other < 6; other++) {
                Check.same("P8 count of " + other, d.count(other), other == r ? 36 : 0);
            }
        }
    }

    /** Promise 8: a couple counts once, be it a fact, given by a rule or by two, or all of these. */
    private static void countOfFactsThatAreAlsoGiven() {
        DatalogDelta d = withCopy();
        d.addRule(DatalogDelta.TURN, Check.pack(1, 0, 0));
        d.add(0, 3, 3);
        Check.same("P8 given by two rules", d.count(1), 1);
        d.add(1, 3, 3);
        Check.same("P8 given by two rules and a fact", d.count(1), 1);
        d.add(1, 0, 0);
        Check.same("P8 one given, one a fact", d.count(1), 2);
    }

    /** Promise 8: "BAD for r outside 0..5." */
    private static void countOutside() {
        DatalogDelta d = full();
        for (int r : OUTSIDE) {
            Check.same("P8 count(" + r + ") of full relations", d.count(r), BAD);
        }
        DatalogDelta e = new DatalogDelta();
        for (int r : OUTSIDE) {
            Check.same("P8 count(" + r + ") of empty relations", e.count(r), BAD);
        }
    }

    /** Promise 11: "The set of the y with (x, y) in relation r (bit y speaks of y)", each of the 64 sets. */
    private static void fromNoneToAll() {
        for (int set = 0; set < 64; set++) {
            int r = set % 6;
            int x = set / 6 % 6;
            DatalogDelta d = new DatalogDelta();
            for (int y = 0; y < 6; y++) {
                if ((set >> y & 1) == 1) {
                    d.add(r, x, y);
                }
            }
            for (int row = 0; row < 36; row++) {
                Check.same("P11 from(" + row / 6 + ", " + row % 6 + ")",
                    d.from(row / 6, row % 6), row == 6 * r + x ? set : 0);
            }
        }
        DatalogDelta d = full();
        for (int row = 0; row < 36; row++) {
            Check.same("P11 a full row", d.from(row / 6, row % 6), 63);
        }
    }

    /** Promise 11: "in relation r": what rules give is in the set as facts are. */
    private static void fromSpeaksOfGivenCouples() {
        DatalogDelta d = withCopy();
        d.add(0, 5, 0);
        d.add(1, 5, 5);
        Check.same("P11 given and a fact", d.from(1, 5), 33);
        d.remove(0, 5, 0);
        Check.same("P11 given no longer", d.from(1, 5), 32);
    }

    /** Promise 11: "BAD for numbers outside 0..5." */
    private static void fromOutside() {
        DatalogDelta d = full();
        DatalogDelta e = new DatalogDelta();
        for (int n : OUTSIDE) {
            for (int inside = 0; inside < 6; inside += 5) {
                Check.same("P11 from(" + n + ", " + inside + ")", d.from(n, inside), BAD);
                Check.same("P11 from(" + inside + ", " + n + ")", d.from(inside, n), BAD);
                Check.same("P11 from(" + n + ", " + inside + ") of nothing", e.from(n, inside), BAD);
            }
        }
        for (int[] at : ASTRAY) {
            if (at[0] < 0 || at[0] > 5 || at[1] < 0 || at[1] > 5) {
                Check.same("P11 from(" + at[0] + ", " + at[1] + ")", d.from(at[0], at[1]), BAD);
            }
        }
    }
}
