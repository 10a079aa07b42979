/** Promises 4 to 8 and 11: facts come and go, and what the looking calls answer of them. */
public final class FactsTest {
    private static final int BAD = DatalogDelta.BAD;
    private static final int[] OUTSIDE = {-1, 6, 7, 32, 36, -6, Integer.MIN_VALUE, Integer.MAX_VALUE};

    public static void main(String[] args) {
        everyFactAlone();
        removeLeavesTheOthers();
        addedTwice();
        factsAndDerived();
        wrongNumbers();
        countAndFrom();
        allFull();
        Check.finish();
    }

    private static void everyFactAlone() {
        for (int n = 0; n < 216; n++) {
            int r = n / 36;
            int x = n / 6 % 6;
            int y = n % 6;
            DatalogDelta d = new DatalogDelta();
            Check.same("P4 add of a new fact", d.add(r, x, y), 1);
            onlyOneIs(d, n);
            Check.same("P8 count", d.count(r), 1);
            Check.same("P11 from", d.from(r, x), 1 << y);
            Check.same("P5 remove of a fact", d.remove(r, x, y), 1);
            Check.same("P6 removed", d.holds(r, x, y), false);
            Check.same("P7 removed", d.isFact(r, x, y), false);
            Check.same("P8 count of nothing", d.count(r), 0);
            Check.same("P11 from of nothing", d.from(r, x), 0);
        }
    }

    private static void onlyOneIs(DatalogDelta d, int one) {
        for (int n = 0; n < 216; n++) {
            Check.same("P7 isFact", d.isFact(n / 36, n / 6 % 6, n % 6), n == one);
            Check.same("P6 holds", d.holds(n / 36, n / 6 % 6, n % 6), n == one);
        }
    }

    private static void removeLeavesTheOthers() {
        DatalogDelta d = new DatalogDelta();
        for (int n = 0; n < 216; n++) {
            d.add(n / 36, n / 6 % 6, n % 6);
        }
        Check.same("P5 remove among many", d.remove(3, 1, 4), 1);
        for (int n = 0; n < 216; n++) {
            Check.same("P5 the others stay", d.isFact(n / 36, n / 6 % 6, n % 6), n != 3 * 36 + 6 + 4);
        }
    }

    private static void addedTwice() {
        DatalogDelta d = new DatalogDelta();
        Check.same("P5 remove of no fact", d.remove(2, 3, 4), 0);
        Check.same("P4 first add", d.add(2, 3, 4), 1);
        Check.same("P4 second add", d.add(2, 3, 4), 0);
        Check.same("P4 the couple turned is another", d.add(2, 4, 3), 1);
        Check.same("P5 one remove takes it away", d.remove(2, 3, 4), 1);
        Check.same("P7 no fact any longer", d.isFact(2, 3, 4), false);
        Check.same("P5 second remove", d.remove(2, 3, 4), 0);
        Check.same("P4 add again", d.add(2, 3, 4), 1);
    }

    private static void factsAndDerived() {
        DatalogDelta d = new DatalogDelta();
        d.addRule(DatalogDelta.COPY, Check.pack(1, 0, 0));
        d.add(0, 2, 5);
        Check.same("P6 derived holds", d.holds(1, 2, 5), true);
        Check.same("P7 derived is no fact", d.isFact(1, 2, 5), false);
        Check.same("P5 remove of what is only derived", d.remove(1, 2, 5), 0);
        Check.same("P6 derived still holds", d.holds(1, 2, 5), true);
        Check.same("P4 add of what is only derived", d.add(1, 2, 5), 1);
        Check.same("P7 now a fact", d.isFact(1, 2, 5), true);
        Check.same("P8 counted once", d.count(1), 1);
        Check.same("P5 the body's fact goes", d.remove(0, 2, 5), 1);
        Check.same("P6 the head's own fact holds", d.holds(1, 2, 5), true);
        d.add(0, 2, 5);
        Check.same("P5 the head's fact goes", d.remove(1, 2, 5), 1);
        Check.same("P6 the rule still gives it", d.holds(1, 2, 5), true);
        Check.same("P5 both gone", d.remove(0, 2, 5), 1);
        Check.same("P6 nothing gives it", d.holds(1, 2, 5), false);
    }

    private static void wrongNumbers() {
        DatalogDelta d = new DatalogDelta();
        // Full relations: an index gone astray would hit something that holds.
        for (int n = 0; n < 216; n++) {
            d.add(n / 36, n / 6 % 6, n % 6);
        }
        for (int n : OUTSIDE) {
            for (int place = 0; place < 3; place++) {
                int r = place == 0 ? n : 2;
                int x = place == 1 ? n : 2;
                int y = place == 2 ? n : 2;
                String call = "(" + r + ", " + x + ", " + y + ")";
                Check.same("P4 add" + call, d.add(r, x, y), BAD);
                Check.same("P5 remove" + call, d.remove(r, x, y), BAD);
                Check.same("P6 holds" + call, d.holds(r, x, y), false);
                Check.same("P7 isFact" + call, d.isFact(r, x, y), false);
            }
            Check.same("P8 count(" + n + ")", d.count(n), BAD);
            Check.same("P11 from(" + n + ", 2)", d.from(n, 2), BAD);
            Check.same("P11 from(2, " + n + ")", d.from(2, n), BAD);
            Check.same("P11 from(" + n + ", " + n + ")", d.from(n, n), BAD);
        }
        DatalogDelta empty = new DatalogDelta();
        for (int n : OUTSIDE) {
            Check.same("P4 add to nothing", empty.add(0, 0, n), BAD);
            Check.same("P5 remove from nothing", empty.remove(0, n, 0), BAD);
            Check.same("P6 holds in nothing", empty.holds(n, 0, 0), false);
        }
    }

    private static void countAndFrom() {
        DatalogDelta d = new DatalogDelta();
        Check.addAll(d, 3, "00 05 13 20 21 22 23 24 25 52");
        Check.same("P8 count", d.count(3), 10);
        int[] due = {33, 8, 63, 0, 0, 4};
        for (int x = 0; x < 6; x++) {
            Check.same("P11 from(3, " + x + ")", d.from(3, x), due[x]);
        }
        d.addRule(DatalogDelta.TURN, Check.pack(4, 3, 0));
        Check.same("P8 count of derived couples", d.count(4), 10);
        int[] turned = {5, 4, 36, 6, 4, 5};
        for (int x = 0; x < 6; x++) {
            Check.same("P11 from(4, " + x + ")", d.from(4, x), turned[x]);
        }
    }

    private static void allFull() {
        DatalogDelta d = new DatalogDelta();
        for (int n = 0; n < 216; n++) {
            Check.same("P4 add", d.add(n / 36, n / 6 % 6, n % 6), 1);
        }
        for (int r = 0; r < 6; r++) {
            Check.same("P8 full count", d.count(r), 36);
            Check.same("P11 full row", d.from(r, 5), 63);
        }
    }
}
