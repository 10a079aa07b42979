/** Promise 3. */
public final class DropRuleTest {
    public static void main(String[] args) {
        answers();
        laterRulesMoveDown();
        factsStay();
        sameRuleTwice();
        Check.finish();
    }

    private static DatalogDelta withCopies(int n) {
        DatalogDelta d = new DatalogDelta();
        for (int k = 1; k <= n; k++) {
            d.addRule(DatalogDelta.COPY, Check.pack(k, 0, 0));
        }
        d.add(0, 1, 2);
        return d;
    }

    private static void answers() {
        DatalogDelta d = withCopies(3);
        int[] wrong = {-1, 3, 4, 7, 8, 9, Integer.MIN_VALUE, Integer.MAX_VALUE};
        for (int i : wrong) {
            Check.same("P3 dropRule(" + i + ") of 3", d.dropRule(i), DatalogDelta.BAD);
        }
        Check.same("P3 last of 3", d.dropRule(2), 2);
        Check.same("P3 rule 2 of 2", d.dropRule(2), DatalogDelta.BAD);
        Check.same("P3 first of 2", d.dropRule(0), 1);
        Check.same("P3 only one", d.dropRule(0), 0);
        Check.same("P3 none left", d.dropRule(0), DatalogDelta.BAD);
        for (int n = 1; n <= 8; n++) {
            d.addRule(DatalogDelta.COPY, Check.pack(5, 0, 0));
        }
        Check.same("P3 rule 8 of 8", d.dropRule(8), DatalogDelta.BAD);
        Check.same("P3 last of 8", d.dropRule(7), 7);
    }

    /** Drops rule i of five COPY rules, then the rule that has come to its place. */
    private static void laterRulesMoveDown() {
        for (int i = 0; i < 5; i++) {
            DatalogDelta d = withCopies(5);
            Check.same("P3 drop " + i, d.dropRule(i), 4);
            for (int r = 1; r <= 5; r++) {
                Check.same("P3 relation " + r + " without rule " + i, d.count(r), r == i + 1 ? 0 : 1);
            }
            if (i < 4) {
                Check.same("P3 drop " + i + " again", d.dropRule(i), 3);
                Check.same("P3 the next rule moved down to " + i, d.count(i + 2), 0);
            }
        }
        DatalogDelta mixed = new DatalogDelta();
        mixed.addRule(DatalogDelta.COPY, Check.pack(5, 5, 0));
        mixed.addRule(DatalogDelta.TURN, Check.pack(2, 0, 0));
        mixed.addRule(DatalogDelta.JOIN, Check.pack(3, 0, 1));
        mixed.addRule(DatalogDelta.MINUS, Check.pack(4, 0, 1));
        Check.addAll(mixed, 0, "01 12 34");
        Check.addAll(mixed, 1, "34 15");
        mixed.dropRule(0);
        Check.couplesAre("P3 TURN moved down", mixed, 2, "10 21 43");
        Check.couplesAre("P3 JOIN moved down", mixed, 3, "05");
        Check.couplesAre("P3 MINUS moved down", mixed, 4, "01 12");
    }

    private static void factsStay() {
        DatalogDelta d = withCopies(1);
        d.add(1, 1, 2);
        d.add(1, 3, 3);
        Check.same("P3 drop", d.dropRule(0), 0);
        Check.couplesAre("P3 facts of the head stay", d, 1, "12 33");
        Check.couplesAre("P3 facts of the body stay", d, 0, "12");
    }

    private static void sameRuleTwice() {
        DatalogDelta d = withCopies(1);
        d.addRule(DatalogDelta.COPY, Check.pack(1, 0, 0));
        Check.same("P3 one of two", d.dropRule(0), 1);
        Check.couplesAre("P3 the second one still gives", d, 1, "12");
        Check.same("P3 the other", d.dropRule(0), 0);
        Check.couplesAre("P3 none gives", d, 1, "");
    }
}
