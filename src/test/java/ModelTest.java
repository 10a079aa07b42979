/**
 * All promises: mixed runs, every answer held against PlainModel's. No object gets more than the
 * 512 calls that the document speaks of.
 */
public final class ModelTest {
    private static final int RUNS = 6000;
    private static final int MOST_CALLS = 512;
    private static final int MOST_CALLS_A_STEP = 42;
    private static final int ENOUGH_FAULTS = 20;

    // A fixed sequence that only looks random, so that every run of this test is the same.
    private static long seed = 20240229L;

    public static void main(String[] args) {
        pairsOfRules();
        for (int run = 0; run < RUNS && Check.wrongSoFar() < ENOUGH_FAULTS; run++) {
            mixedRun(run);
        }
        Check.finish();
    }

    private static int below(int bound) {
        seed = seed * 6364136223846793005L + 1442695040888963407L;
        return (int) ((seed >>> 33) % bound);
    }

    private static int mostlyBelow(int bound) {
        return below(40) == 0 ? below(9) - 2 : below(bound);
    }

    /** Layering alone: each rule first, and behind it every seventh of all rules. */
    private static void pairsOfRules() {
        for (int one = 0; one < 1080 && Check.wrongSoFar() < ENOUGH_FAULTS; one++) {
            for (int two = one % 7; two < 1080; two += 7) {
                DatalogDelta d = new DatalogDelta();
                PlainModel m = new PlainModel();
                String what = "rules " + one + " and " + two;
                Check.same(what, d.addRule(one / 216, one % 216), m.addRule(one / 216, one % 216));
                Check.same(what, d.addRule(two / 216, two % 216), m.addRule(two / 216, two % 216));
            }
        }
    }

    private static void mixedRun(int run) {
        DatalogDelta d = new DatalogDelta();
        PlainModel m = new PlainModel();
        // Runs over few relations meet circles and deep layers more often.
        int relations = 2 + run % 5;
        // With few numbers, remove meets facts and JOIN meets joints more often.
        int span = 2 + run / 5 % 5;
        // Some runs look at every row, and are short; the others count, and are long.
        boolean rows = run % 3 == 0;
        StringBuilder told = new StringBuilder("run " + run + ":");
        int wrongBefore = Check.wrongSoFar();
        int calls = 0;
        while (calls + MOST_CALLS_A_STEP <= MOST_CALLS && Check.wrongSoFar() == wrongBefore) {
            change(d, m, relations, span, told);
            calls += 1 + compare(d, m, told.toString(), rows);
        }
    }

    private static void change(DatalogDelta d, PlainModel m, int relations, int span, StringBuilder told) {
        int r = mostlyBelow(relations);
        int x = mostlyBelow(span);
        int y = mostlyBelow(span);
        switch (below(8)) {
            case 0:
            case 1:
                int shape = mostlyBelow(5);
                int which = below(40) == 0 ? below(260) - 20
                    : Check.pack(below(relations), below(relations), below(relations));
                told.append(" addRule(" + shape + ", " + which + ")");
                Check.same(told.toString(), d.addRule(shape, which), m.addRule(shape, which));
                break;
            case 2:
                int i = below(12) - 2;
                told.append(" dropRule(" + i + ")");
                Check.same(told.toString(), d.dropRule(i), m.dropRule(i));
                break;
            case 3:
            case 4:
                told.append(" remove(" + r + ", " + x + ", " + y + ")");
                Check.same(told.toString(), d.remove(r, x, y), m.setFact(r, x, y, false));
                break;
            default:
                told.append(" add(" + r + ", " + x + ", " + y + ")");
                Check.same(told.toString(), d.add(r, x, y), m.setFact(r, x, y, true));
                break;
        }
    }

    /** Answers the number of calls it made. */
    private static int compare(DatalogDelta d, PlainModel m, String after, boolean rows) {
        int r = mostlyBelow(6);
        int x = mostlyBelow(6);
        int y = mostlyBelow(6);
        String place = "(" + r + ", " + x + ", " + y + ")";
        Check.same(after + " gained()", d.gained(), m.gained());
        Check.same(after + " lost()", d.lost(), m.lost());
        Check.same(after + " holds" + place, d.holds(r, x, y), m.holds(r, x, y));
        Check.same(after + " isFact" + place, d.isFact(r, x, y), m.isFact(r, x, y));
        if (!rows) {
            for (int k = 0; k < 6; k++) {
                Check.same(after + " count(" + k + ")", d.count(k), m.count(k));
            }
            return 10;
        }
        for (int k = 0; k < 36; k++) {
            Check.same(after + " from(" + k / 6 + ", " + k % 6 + ")", d.from(k / 6, k % 6), m.from(k / 6, k % 6));
        }
        return 40;
    }
}
