/** Promise 1, and the answers of promises 6 to 11 before any change. */
public final class NewObjectTest {
    public static void main(String[] args) {
        constants();
        hasNothing();
        objectsAreApart();
        Check.finish();
    }

    private static void constants() {
        Check.same("COPY", DatalogDelta.COPY, 0);
        Check.same("TURN", DatalogDelta.TURN, 1);
        Check.same("JOIN", DatalogDelta.JOIN, 2);
        Check.same("BOTH", DatalogDelta.BOTH, 3);
        Check.same("MINUS", DatalogDelta.MINUS, 4);
        Check.same("BAD", DatalogDelta.BAD, -1);
        Check.same("FULL", DatalogDelta.FULL, -2);
        Check.same("CIRCLE", DatalogDelta.CIRCLE, -3);
    }

    private static void hasNothing() {
        DatalogDelta d = new DatalogDelta();
        for (int r = 0; r < 6; r++) {
            Check.same("P1 count of a new object", d.count(r), 0);
            for (int x = 0; x < 6; x++) {
                Check.same("P1 from of a new object", d.from(r, x), 0);
                for (int y = 0; y < 6; y++) {
                    Check.same("P1 isFact of a new object", d.isFact(r, x, y), false);
                    Check.same("P1 holds of a new object", d.holds(r, x, y), false);
                }
            }
        }
        Check.same("P9 gained before any change", d.gained(), 0);
        Check.same("P10 lost before any change", d.lost(), 0);
        Check.same("P1 no rule to drop", d.dropRule(0), DatalogDelta.BAD);
        Check.same("P1 the first rule", d.addRule(DatalogDelta.COPY, Check.pack(1, 0, 0)), 1);
    }

    private static void objectsAreApart() {
        DatalogDelta one = new DatalogDelta();
        DatalogDelta two = new DatalogDelta();
        one.addRule(DatalogDelta.COPY, Check.pack(1, 0, 0));
        one.add(0, 2, 3);
        Check.same("P1 the other object has no rule", two.dropRule(0), DatalogDelta.BAD);
        Check.same("P1 the other object has no fact", two.isFact(0, 2, 3), false);
        Check.same("P1 the other object gained nothing", two.gained(), 0);
        Check.same("P1 a third object is empty", new DatalogDelta().count(1), 0);
    }
}
