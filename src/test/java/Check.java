/** Counts and prints the answers that are not as due; each test ends with finish(). */
final class Check {
    private static int wrong = 0;

    private Check() {
    }

    static void same(String what, long got, long due) {
        if (got != due) {
            wrong++;
            System.out.println(what + " answered " + got + ", due is " + due);
        }
    }

    static void same(String what, boolean got, boolean due) {
        same(what, got ? 1L : 0L, due ? 1L : 0L);
    }

    static int wrongSoFar() {
        return wrong;
    }

    static void finish() {
        if (wrong != 0) {
            System.out.println(wrong + " answers are not as due");
            System.exit(1);
        }
        System.out.println("all answers are as due");
    }

    static int pack(int h, int a, int b) {
        return 36 * h + 6 * a + b;
    }

    /** The couples of relation r, each as two digits, such as "01 23", in order. */
    static String couples(DatalogDelta d, int r) {
        StringBuilder text = new StringBuilder();
        for (int x = 0; x < 6; x++) {
            for (int y = 0; y < 6; y++) {
                if (d.holds(r, x, y)) {
                    text.append(text.length() == 0 ? "" : " ").append(x).append(y);
                }
            }
        }
        return text.toString();
    }

    static void couplesAre(String what, DatalogDelta d, int r, String due) {
        String got = couples(d, r);
        if (!got.equals(due)) {
            wrong++;
            System.out.println(what + ": relation " + r + " is {" + got + "}, due is {" + due + "}");
        }
    }

    /** Makes facts of the couples in a text such as "01 23". */
    static void addAll(DatalogDelta d, int r, String couples) {
        for (String couple : couples.split(" ")) {
            d.add(r, couple.charAt(0) - '0', couple.charAt(1) - '0');
        }
    }
}
