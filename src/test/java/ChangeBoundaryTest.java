/**
 * The boundary cases of promises 9, 10 and 12 and of the number of calls: one method for each
 * sentence that names one, with the sentence above it.
 */
public final class ChangeBoundaryTest {
    private static final int COPY = DatalogDelta.COPY;
    private static final int TURN = DatalogDelta.TURN;
    private static final int JOIN = DatalogDelta.JOIN;
    private static final int BOTH = DatalogDelta.BOTH;
    private static final int MINUS = DatalogDelta.MINUS;
    private static final int BAD = DatalogDelta.BAD;
    private static final int FULL = DatalogDelta.FULL;
    private static final int CIRCLE = DatalogDelta.CIRCLE;
    private static final int MOST_CALLS = 512;
    private static final int[] HOSTILE = {0, 5, -1, 6, 3, 4, 215, 216, 7, 8, 31, 32, -6, 36, 715827883,
        Integer.MIN_VALUE, Integer.MAX_VALUE, -715827882, 1, 2};

    /** One call that may be refused, or that only looks. */
    private interface Call {
        int on(DatalogDelta d);
    }

    public static void main(String[] args) {
        nothingBeforeAny();
        nothingAfterRefusedCallsAlone();
        onlyTheLatestCall();
        addThatAnswersZero();
        removeThatAnswersZero();
        ruleThatGivesNothing();
        holdsNowAndDidBefore();
        comesAndGoesElsewhere();
        factsThatHoldAnyway();
        looksAreNotSuchCalls();
        refusedShape();
        refusedWhich();
        refusedNinthRule();
        refusedCircle();
        refusedDrop();
        refusedDropOfNone();
        refusedAdd();
        refusedRemove();
        refusedLooks();
        lastCallAfterFacts();
        lastCallAfterRules();
        lastCallAfterRefusals();
        laterCallsEnd();
        Check.finish();
    }

    private static void changes(String what, DatalogDelta d, int gained, int lost) {
        Check.same("P9 gained, " + what, d.gained(), gained);
        Check.same("P10 lost, " + what, d.lost(), lost);
    }

    /** Promise 9: "0 before any." Promise 10 speaks of the same call. */
    private static void nothingBeforeAny() {
        DatalogDelta d = new DatalogDelta();
        changes("new object", d, 0, 0);
        changes("new object, asked again", d, 0, 0);
    }

    /** Promise 9: "that was not refused; 0 before any": refused calls are none of these. */
    private static void nothingAfterRefusedCallsAlone() {
        DatalogDelta d = new DatalogDelta();
        d.add(0, 0, 6);
        changes("add refused", d, 0, 0);
        d.remove(-1, 0, 0);
        changes("remove refused", d, 0, 0);
        d.dropRule(0);
        changes("dropRule refused", d, 0, 0);
        d.addRule(5, 0);
        d.addRule(MINUS, 0);
        changes("addRule refused", d, 0, 0);
    }

    /** Promises 9 and 10: "before the latest call", not before an earlier one. */
    private static void onlyTheLatestCall() {
        DatalogDelta d = new DatalogDelta();
        d.addRule(COPY, Check.pack(1, 0, 0));
        d.add(0, 0, 0);
        d.add(0, 5, 5);
        changes("two adds", d, 2, 0);
        d.remove(0, 0, 0);
        changes("then a remove", d, 0, 2);
        d.add(0, 0, 0);
        changes("what was lost comes back", d, 2, 0);
        d.dropRule(0);
        changes("then a dropRule", d, 0, 2);
        d.addRule(TURN, Check.pack(2, 0, 0));
        changes("then an addRule", d, 2, 0);
    }

    /** Promises 4 and 9: 0 is an answer of its own, and no refusal, so this is the latest call. */
    private static void addThatAnswersZero() {
        DatalogDelta d = new DatalogDelta();
        d.add(3, 1, 1);
        changes("add", d, 1, 0);
        Check.same("P4 add of a fact", d.add(3, 1, 1), 0);
        changes("add of a fact", d, 0, 0);
        DatalogDelta e = new DatalogDelta();
        Check.addAll(e, 3, "11 22");
        e.remove(3, 2, 2);
        changes("remove", e, 0, 1);
        Check.same("P4 add of a fact", e.add(3, 1, 1), 0);
        changes("add of a fact after a remove", e, 0, 0);
    }

    /** Promises 5 and 9: 0 is an answer of its own, and no refusal, so this is the latest call. */
    private static void removeThatAnswersZero() {
        DatalogDelta d = new DatalogDelta();
        d.add(3, 1, 1);
        changes("add", d, 1, 0);
        Check.same("P5 remove of no fact", d.remove(3, 2, 2), 0);
        changes("remove of no fact", d, 0, 0);
        d.remove(3, 1, 1);
        changes("remove", d, 0, 1);
        Check.same("P5 remove of no fact", d.remove(3, 1, 1), 0);
        changes("remove of no fact after a remove", d, 0, 0);
    }

    /** Promises 9 and 10: a rule that gives nothing new comes and goes, and is the latest call. */
    private static void ruleThatGivesNothing() {
        DatalogDelta d = new DatalogDelta();
        d.add(0, 2, 3);
        Check.same("P2 a rule over nothing", d.addRule(COPY, Check.pack(1, 5, 0)), 1);
        changes("a rule over nothing", d, 0, 0);
        d.remove(0, 2, 3);
        Check.same("P3 a rule over nothing", d.dropRule(0), 0);
        changes("a rule over nothing, dropped", d, 0, 0);
    }

    /** Promise 9: "hold now and did not before". Promise 10: "held before that call and do not now". */
    private static void holdsNowAndDidBefore() {
        DatalogDelta d = new DatalogDelta();
        d.addRule(COPY, Check.pack(2, 0, 0));
        d.addRule(COPY, Check.pack(2, 1, 0));
        d.add(0, 4, 4);
        changes("the first body's fact", d, 2, 0);
        d.add(1, 4, 4);
        changes("what holds is not gained again", d, 1, 0);
        d.remove(0, 4, 4);
        changes("what still holds is not lost", d, 0, 1);
        d.dropRule(0);
        changes("the rule of the other body", d, 0, 0);
        d.remove(1, 4, 4);
        changes("the last that gives it", d, 0, 2);
    }

    /** Promises 9 and 10: one call may do both, and each (r, x, y) counts for itself. */
    private static void comesAndGoesElsewhere() {
        DatalogDelta d = new DatalogDelta();
        for (int k = 1; k < 6; k++) {
            d.addRule(MINUS, Check.pack(k, 0, k - 1));
        }
        d.add(0, 5, 5);
        // Relation 1 is 0 without itself, so it is empty; then 2 and 4 hold.
        changes("a fact below five MINUS", d, 3, 0);
        d.add(1, 5, 5);
        changes("1, 3 and 5 come, 2 and 4 go", d, 3, 2);
        d.remove(1, 5, 5);
        changes("1, 3 and 5 go, 2 and 4 come", d, 2, 3);
        d.addRule(COPY, Check.pack(1, 0, 0));
        changes("the same by a rule", d, 3, 2);
        d.dropRule(5);
        changes("the same by a rule, dropped", d, 2, 3);
    }

    /** Promises 9 and 10: (r, x, y) that "hold", so that a fact which holds anyway changes nothing. */
    private static void factsThatHoldAnyway() {
        DatalogDelta d = new DatalogDelta();
        d.addRule(COPY, Check.pack(1, 0, 0));
        d.add(0, 0, 5);
        Check.same("P4 a new fact that holds", d.add(1, 0, 5), 1);
        changes("a new fact that holds", d, 0, 0);
        Check.same("P5 a fact that holds on", d.remove(1, 0, 5), 1);
        changes("a fact that holds on", d, 0, 0);
    }

    /** Promise 9: "call of addRule, dropRule, add or remove": no other call counts. */
    private static void looksAreNotSuchCalls() {
        DatalogDelta d = new DatalogDelta();
        d.addRule(MINUS, Check.pack(2, 0, 1));
        d.add(0, 1, 1);
        d.add(1, 1, 1);
        for (int n = -1; n <= 6; n++) {
            d.holds(n, 1, 1);
            d.isFact(n, 1, 1);
            d.count(n);
            d.from(n, n);
            changes("looks at " + n, d, 1, 1);
        }
    }

    /** A busy object with the given number of rules, 5 to 8, whose latest call gained 1 and lost 3. */
    private static DatalogDelta busy(int rules) {
        DatalogDelta d = new DatalogDelta();
        Check.addAll(d, 0, "01 12 50");
        Check.addAll(d, 5, "02 44");
        d.addRule(COPY, Check.pack(1, 0, 0));
        d.addRule(JOIN, Check.pack(1, 1, 1));
        d.addRule(MINUS, Check.pack(2, 1, 0));
        d.addRule(TURN, Check.pack(3, 2, 0));
        d.addRule(BOTH, Check.pack(4, 2, 5));
        for (int n = 5; n < rules; n++) {
            d.addRule(COPY, Check.pack(4, 4, n - 5));
        }
        d.add(0, 0, 2);
        Check.same("P12 gained at first", d.gained(), 1);
        Check.same("P12 lost at first", d.lost(), 3);
        return d;
    }

    /** Promise 12: "A call that is refused [...] changes nothing": all answers stay those of an undisturbed twin. */
    private static void refused(String what, int rules, int due, Call call) {
        DatalogDelta disturbed = busy(rules);
        DatalogDelta calm = busy(rules);
        Check.same("P12 " + what, call.on(disturbed), due);
        twins("P12 after " + what, disturbed, calm);
        for (int n = 0; n < 216; n++) {
            Check.same("P12 facts after " + what,
                disturbed.isFact(n / 36, n / 6 % 6, n % 6), calm.isFact(n / 36, n / 6 % 6, n % 6));
        }
        // What the list of rules holds shows when the rules go, one by one.
        for (int left = rules - 1; left >= 0; left--) {
            int i = left / 2;
            Check.same("P12 rules left after " + what, disturbed.dropRule(i), left);
            Check.same("P12 rules left", calm.dropRule(i), left);
            Check.same("P12 gained, then " + left + " rules left", disturbed.gained(), calm.gained());
            Check.same("P12 lost, then " + left + " rules left", disturbed.lost(), calm.lost());
        }
        twins("P12 without rules after " + what, disturbed, calm);
        Check.same("P12 no rule is left after " + what, disturbed.dropRule(0), BAD);
    }

    private static void twins(String what, DatalogDelta one, DatalogDelta two) {
        Check.same(what + ", gained", one.gained(), two.gained());
        Check.same(what + ", lost", one.lost(), two.lost());
        for (int row = 0; row < 36; row++) {
            Check.same(what + ", from(" + row / 6 + ", " + row % 6 + ")",
                one.from(row / 6, row % 6), two.from(row / 6, row % 6));
        }
    }

    /** Promise 12: "because a number is not as said there", addRule's shape. */
    private static void refusedShape() {
        for (int rules = 5; rules <= 8; rules++) {
            refused("shape -1", rules, BAD, d -> d.addRule(-1, Check.pack(5, 0, 0)));
            refused("shape 5", rules, BAD, d -> d.addRule(5, Check.pack(5, 0, 0)));
        }
    }

    /** Promise 12: "because a number is not as said there", addRule's which. */
    private static void refusedWhich() {
        for (int rules = 5; rules <= 8; rules++) {
            refused("which -1", rules, BAD, d -> d.addRule(COPY, -1));
            refused("which 216", rules, BAD, d -> d.addRule(JOIN, 216));
        }
    }

    /** Promise 12: "or a limit is reached", the eight rules. */
    private static void refusedNinthRule() {
        for (int shape = 0; shape < 5; shape++) {
            int s = shape;
            refused("a ninth rule, shape " + s, 8, FULL, d -> d.addRule(s, Check.pack(5, 0, 4)));
        }
    }

    /** Promise 12, with promise 2: CIRCLE. */
    private static void refusedCircle() {
        for (int rules = 5; rules <= 7; rules++) {
            refused("b is h", rules, CIRCLE, d -> d.addRule(MINUS, Check.pack(5, 0, 5)));
            refused("a circle by COPY", rules, CIRCLE, d -> d.addRule(COPY, Check.pack(0, 3, 0)));
            refused("a circle by JOIN", rules, CIRCLE, d -> d.addRule(JOIN, Check.pack(0, 0, 4)));
        }
    }

    /** Promise 12: "something is not there", dropRule's rule. */
    private static void refusedDrop() {
        for (int rules = 5; rules <= 8; rules++) {
            int none = rules;
            refused("no rule -1", rules, BAD, d -> d.dropRule(-1));
            refused("no rule " + none, rules, BAD, d -> d.dropRule(none));
            refused("no rule " + (none + 1), rules, BAD, d -> d.dropRule(none + 1));
        }
    }

    /** Promise 12: "something is not there", when there is no rule at all. */
    private static void refusedDropOfNone() {
        DatalogDelta d = new DatalogDelta();
        Check.addAll(d, 0, "00 55");
        Check.same("P12 no rule at all", d.dropRule(0), BAD);
        changes("dropRule refused, no rule at all", d, 1, 0);
        Check.couplesAre("P12 no rule at all", d, 0, "00 55");
        Check.same("P12 the first rule", d.addRule(COPY, Check.pack(1, 0, 0)), 1);
        Check.couplesAre("P12 the first rule", d, 1, "00 55");
    }

    /** Promise 12: "because a number is not as said there", add's three. */
    private static void refusedAdd() {
        for (int n = -1; n <= 6; n += 7) {
            int out = n;
            refused("add's r " + n, 7, BAD, d -> d.add(out, 3, 3));
            refused("add's x " + n, 7, BAD, d -> d.add(0, out, 3));
            refused("add's y " + n, 7, BAD, d -> d.add(0, 3, out));
        }
    }

    /** Promise 12: "because a number is not as said there", remove's three. */
    private static void refusedRemove() {
        for (int n = -1; n <= 6; n += 7) {
            int out = n;
            refused("remove's r " + n, 7, BAD, d -> d.remove(out, 0, 2));
            refused("remove's x " + n, 7, BAD, d -> d.remove(0, out, 2));
            refused("remove's y " + n, 7, BAD, d -> d.remove(0, 0, out));
        }
    }

    /** Promise 12: "because a number is not as said there", the looking calls. */
    private static void refusedLooks() {
        for (int n = -1; n <= 6; n += 7) {
            int out = n;
            refused("count's r " + n, 7, BAD, d -> d.count(out));
            refused("from's r " + n, 7, BAD, d -> d.from(out, 0));
            refused("from's x " + n, 7, BAD, d -> d.from(0, out));
            refused("holds' r " + n, 7, 0, d -> d.holds(out, 0, 1) ? 1 : 0);
            refused("isFact's x " + n, 7, 0, d -> d.isFact(0, out, 1) ? 1 : 0);
        }
    }

    /** The ten calls, each with the answer that is due where relation 0 has 01 and relation 1 copies it. */
    private static void lastCall(String after, int last, DatalogDelta d) {
        int[] due = {2, 0, 1, 1, 1, 1, 1, 2, 0, 2};
        int answer;
        switch (last) {
            case 0: answer = d.addRule(TURN, Check.pack(2, 0, 0)); break;
            case 1: answer = d.dropRule(0); break;
            case 2: answer = d.add(0, 5, 5); break;
            case 3: answer = d.remove(0, 0, 1); break;
            case 4: answer = d.holds(1, 0, 1) ? 1 : 0; break;
            case 5: answer = d.isFact(0, 0, 1) ? 1 : 0; break;
            case 6: answer = d.count(1); break;
            case 7: answer = d.gained(); break;
            case 8: answer = d.lost(); break;
            default: answer = d.from(1, 0); break;
        }
        Check.same("the 512th call, method " + last + ", after " + after, answer, due[last]);
    }

    /** What it is: "An object is used for at most 512 calls": the last of them is one as others are. */
    private static void lastCallAfterFacts() {
        for (int last = 0; last < 10; last++) {
            DatalogDelta d = new DatalogDelta();
            d.addRule(COPY, Check.pack(1, 0, 0));
            for (int call = 2; call < MOST_CALLS; call++) {
                int answer = call % 2 == 0 ? d.remove(0, 0, 1) : d.add(0, 0, 1);
                Check.same("call " + call, answer, call == 2 ? 0 : 1);
            }
            lastCall("facts that come and go", last, d);
        }
    }

    /** The same, where rules come and go. */
    private static void lastCallAfterRules() {
        for (int last = 0; last < 10; last++) {
            DatalogDelta d = new DatalogDelta();
            d.addRule(COPY, Check.pack(1, 0, 0));
            for (int call = 2; call < MOST_CALLS - 2; call++) {
                int rules = call % 2 == 0 ? d.addRule(JOIN, Check.pack(3, 3, 0)) : d.dropRule(1);
                Check.same("call " + call, rules, call % 2 == 0 ? 2 : 1);
            }
            Check.same("call 510", d.add(0, 0, 1), 1);
            Check.same("call 511", d.gained(), 2);
            lastCall("rules that come and go", last, d);
        }
    }

    /** The same, where all between is refused, or only looks. */
    private static void lastCallAfterRefusals() {
        for (int last = 0; last < 10; last++) {
            DatalogDelta d = new DatalogDelta();
            d.addRule(COPY, Check.pack(1, 0, 0));
            d.add(0, 0, 1);
            for (int call = 3; call < MOST_CALLS; call++) {
                int answer = call % 3 == 0 ? d.addRule(MINUS, 0) : call % 3 == 1 ? d.dropRule(1) : d.count(1);
                Check.same("call " + call, answer, call % 3 == 0 ? CIRCLE : call % 3 == 1 ? BAD : 1);
            }
            lastCall("refused calls", last, d);
        }
    }

    /** What it is: "what later calls answer is free"; but LANGUAGE.md, rule 7: none throws or fails to end. */
    private static void laterCallsEnd() {
        DatalogDelta d = new DatalogDelta();
        int many = HOSTILE.length;
        for (int n = 0; n < many * many * many; n++) {
            int one = HOSTILE[n % many];
            int two = HOSTILE[n / many % many];
            int three = HOSTILE[n / many / many];
            d.addRule(one, two);
            d.add(one, two, three);
            d.holds(one, two, three);
            d.isFact(one, two, three);
            d.count(two);
            d.from(one, two);
            d.gained();
            d.lost();
            if (n % 3 == 0) {
                d.dropRule(three);
                d.remove(three, two, one);
            }
        }
    }
}
