/** Promises 9 and 10. */
public final class ChangesTest {
    public static void main(String[] args) {
        eachKindOfCall();
        callsThatChangeNothing();
        refusedCallsKeepTheNumbers();
        lookingKeepsTheNumbers();
        gainAndLossAtOnce();
        greatestNumbers();
        Check.finish();
    }

    private static void changes(String what, DatalogDelta d, int gained, int lost) {
        Check.same("P9 gained by " + what, d.gained(), gained);
        Check.same("P10 lost by " + what, d.lost(), lost);
    }

    private static void eachKindOfCall() {
        DatalogDelta d = new DatalogDelta();
        d.add(0, 0, 1);
        changes("add", d, 1, 0);
        d.add(0, 1, 2);
        changes("add", d, 1, 0);
        d.addRule(DatalogDelta.COPY, Check.pack(1, 0, 0));
        changes("addRule COPY", d, 2, 0);
        d.addRule(DatalogDelta.JOIN, Check.pack(1, 1, 1));
        changes("addRule JOIN", d, 1, 0);
        d.add(0, 2, 3);
        changes("add with rules", d, 4, 0);
        d.remove(0, 1, 2);
        changes("remove with rules", d, 0, 5);
        d.dropRule(0);
        changes("dropRule", d, 0, 2);
        d.dropRule(0);
        changes("dropRule of what gives nothing", d, 0, 0);
    }

    private static void callsThatChangeNothing() {
        DatalogDelta d = new DatalogDelta();
        d.add(0, 0, 1);
        Check.same("add again", d.add(0, 0, 1), 0);
        changes("add of a fact, not refused", d, 0, 0);
        d.add(0, 0, 2);
        Check.same("remove of no fact", d.remove(0, 5, 5), 0);
        changes("remove of no fact, not refused", d, 0, 0);
        d.addRule(DatalogDelta.COPY, Check.pack(1, 0, 0));
        d.addRule(DatalogDelta.COPY, Check.pack(1, 0, 0));
        changes("addRule of the same rule", d, 0, 0);
        d.remove(0, 0, 2);
        changes("remove", d, 0, 2);
        d.dropRule(0);
        changes("dropRule of one of two", d, 0, 0);
        d.add(1, 0, 1);
        changes("add of what is derived", d, 0, 0);
    }

    private static void refusedCallsKeepTheNumbers() {
        DatalogDelta d = new DatalogDelta();
        refuse(d);
        changes("refused calls at first", d, 0, 0);
        for (int n = 0; n < 7; n++) {
            d.addRule(DatalogDelta.COPY, Check.pack(1, 0, 0));
        }
        d.add(2, 3, 3);
        d.add(0, 3, 3);
        d.addRule(DatalogDelta.MINUS, Check.pack(4, 0, 2));
        d.dropRule(7);
        Check.same("CIRCLE", d.addRule(DatalogDelta.MINUS, Check.pack(0, 2, 1)), DatalogDelta.CIRCLE);
        d.add(0, 4, 4);
        changes("add", d, 2, 0);
        Check.same("CIRCLE", d.addRule(DatalogDelta.MINUS, Check.pack(0, 2, 1)), DatalogDelta.CIRCLE);
        refuse(d);
        changes("add, then refused calls", d, 2, 0);
        d.addRule(DatalogDelta.MINUS, Check.pack(3, 0, 2));
        changes("addRule MINUS", d, 1, 0);
        Check.same("FULL", d.addRule(DatalogDelta.COPY, Check.pack(5, 0, 0)), DatalogDelta.FULL);
        refuse(d);
        changes("addRule, then refused calls", d, 1, 0);
        d.remove(0, 4, 4);
        Check.same("FULL", d.addRule(DatalogDelta.COPY, Check.pack(5, 0, 0)), DatalogDelta.FULL);
        refuse(d);
        changes("remove, then refused calls", d, 0, 3);
    }

    private static void refuse(DatalogDelta d) {
        Check.same("refused shape", d.addRule(5, 0), DatalogDelta.BAD);
        Check.same("refused which", d.addRule(0, 216), DatalogDelta.BAD);
        Check.same("refused dropRule", d.dropRule(8), DatalogDelta.BAD);
        Check.same("refused dropRule", d.dropRule(-1), DatalogDelta.BAD);
        Check.same("refused add", d.add(0, 6, 0), DatalogDelta.BAD);
        Check.same("refused remove", d.remove(0, 3, -1), DatalogDelta.BAD);
    }

    private static void lookingKeepsTheNumbers() {
        DatalogDelta d = new DatalogDelta();
        d.addRule(DatalogDelta.TURN, Check.pack(1, 0, 0));
        d.add(0, 3, 4);
        d.holds(0, 3, 4);
        d.isFact(0, 3, 4);
        d.count(0);
        d.from(1, 4);
        d.holds(6, 0, 0);
        d.count(-1);
        d.gained();
        d.lost();
        changes("add, then looks", d, 2, 0);
        changes("add, then looks", d, 2, 0);
    }

    private static void gainAndLossAtOnce() {
        DatalogDelta d = new DatalogDelta();
        d.addRule(DatalogDelta.MINUS, Check.pack(2, 0, 1));
        Check.addAll(d, 0, "00 11 22");
        d.add(1, 1, 1);
        changes("add below a MINUS", d, 1, 1);
        d.remove(1, 1, 1);
        changes("remove below a MINUS", d, 1, 1);
        d.addRule(DatalogDelta.TURN, Check.pack(1, 0, 0));
        changes("addRule below a MINUS", d, 3, 3);
        d.dropRule(1);
        changes("dropRule below a MINUS", d, 3, 3);
        // One couple comes in one relation while the same goes in another.
        d.addRule(DatalogDelta.MINUS, Check.pack(3, 0, 2));
        changes("addRule above a MINUS", d, 0, 0);
        d.add(1, 2, 2);
        changes("add below two MINUS", d, 2, 1);
        d.remove(1, 2, 2);
        changes("remove below two MINUS", d, 1, 2);
    }

    private static void greatestNumbers() {
        DatalogDelta d = new DatalogDelta();
        for (int r = 1; r < 6; r++) {
            d.addRule(DatalogDelta.COPY, Check.pack(r, r - 1, 0));
        }
        d.addRule(DatalogDelta.JOIN, Check.pack(0, 0, 0));
        Check.addAll(d, 0, "01 12 23 34 45");
        d.add(0, 5, 0);
        changes("the last link of the ring", d, 21 * 6, 0);
        d.remove(0, 5, 0);
        changes("the last link of the ring, removed", d, 0, 21 * 6);
        DatalogDelta all = new DatalogDelta();
        for (int n = 0; n < 36; n++) {
            all.add(0, n / 6, n % 6);
        }
        all.addRule(DatalogDelta.COPY, Check.pack(2, 1, 0));
        all.addRule(DatalogDelta.COPY, Check.pack(3, 1, 0));
        all.addRule(DatalogDelta.COPY, Check.pack(4, 1, 0));
        all.addRule(DatalogDelta.COPY, Check.pack(5, 1, 0));
        all.addRule(DatalogDelta.COPY, Check.pack(1, 0, 0));
        changes("a rule that fills five relations", all, 180, 0);
        all.dropRule(4);
        changes("the same rule, dropped", all, 0, 180);
    }
}
