import java.util.ArrayList;
import java.util.List;

/**
 * The document's words over again, by other means than the program's: single booleans for rows,
 * a walk for dependence, and no levels. It takes the relations b of MINUS rules as the round
 * before left them; each round settles at least one layer more, so seven rounds settle all six.
 */
final class PlainModel {
    private record Rule(int shape, int h, int a, int b) {
        boolean hasSecondBody() {
            return shape >= DatalogDelta.JOIN;
        }
    }

    private final List<Rule> rules = new ArrayList<>();
    private final boolean[][][] fact = new boolean[6][6][6];
    private boolean[][][] holds = new boolean[6][6][6];
    private int gained = 0;
    private int lost = 0;

    int addRule(int shape, int which) {
        if (shape < 0 || shape > 4 || which < 0 || which > 215) {
            return DatalogDelta.BAD;
        }
        if (rules.size() == 8) {
            return DatalogDelta.FULL;
        }
        rules.add(new Rule(shape, which / 36, which % 36 / 6, which % 6));
        if (!layered()) {
            rules.remove(rules.size() - 1);
            return DatalogDelta.CIRCLE;
        }
        settle();
        return rules.size();
    }

    int dropRule(int i) {
        if (i < 0 || i >= rules.size()) {
            return DatalogDelta.BAD;
        }
        rules.remove(i);
        settle();
        return rules.size();
    }

    int setFact(int r, int x, int y, boolean to) {
        if (outside(r) || outside(x) || outside(y)) {
            return DatalogDelta.BAD;
        }
        boolean was = fact[r][x][y];
        fact[r][x][y] = to;
        settle();
        return was == to ? 0 : 1;
    }

    boolean holds(int r, int x, int y) {
        return !outside(r) && !outside(x) && !outside(y) && holds[r][x][y];
    }

    boolean isFact(int r, int x, int y) {
        return !outside(r) && !outside(x) && !outside(y) && fact[r][x][y];
    }

    int count(int r) {
        if (outside(r)) {
            return DatalogDelta.BAD;
        }
        int n = 0;
        for (int k = 0; k < 36; k++) {
            n += holds[r][k / 6][k % 6] ? 1 : 0;
        }
        return n;
    }

    int from(int r, int x) {
        if (outside(r) || outside(x)) {
            return DatalogDelta.BAD;
        }
        int set = 0;
        for (int y = 0; y < 6; y++) {
            set += holds[r][x][y] ? 1 << y : 0;
        }
        return set;
    }

    int gained() {
        return gained;
    }

    int lost() {
        return lost;
    }

    private static boolean outside(int n) {
        return n < 0 || n > 5;
    }

    private boolean layered() {
        for (Rule rule : rules) {
            if (rule.shape == DatalogDelta.MINUS
                && (rule.b == rule.h || depends(rule.b, rule.h, new boolean[6]))) {
                return false;
            }
        }
        return true;
    }

    private boolean depends(int from, int on, boolean[] seen) {
        seen[from] = true;
        for (Rule rule : rules) {
            if (rule.h != from) {
                continue;
            }
            if (rule.a == on || rule.hasSecondBody() && rule.b == on) {
                return true;
            }
            if (!seen[rule.a] && depends(rule.a, on, seen)) {
                return true;
            }
            if (rule.hasSecondBody() && !seen[rule.b] && depends(rule.b, on, seen)) {
                return true;
            }
        }
        return false;
    }

    private void settle() {
        boolean[][][] taken = new boolean[6][6][6];
        for (int round = 0; round < 7; round++) {
            taken = smallest(taken);
        }
        gained = 0;
        lost = 0;
        for (int n = 0; n < 216; n++) {
            boolean was = holds[n / 36][n / 6 % 6][n % 6];
            boolean is = taken[n / 36][n / 6 % 6][n % 6];
            gained += is && !was ? 1 : 0;
            lost += was && !is ? 1 : 0;
        }
        holds = taken;
    }

    private boolean[][][] smallest(boolean[][][] taken) {
        boolean[][][] now = new boolean[6][6][6];
        for (int n = 0; n < 216; n++) {
            now[n / 36][n / 6 % 6][n % 6] = fact[n / 36][n / 6 % 6][n % 6];
        }
        boolean more = true;
        while (more) {
            more = false;
            for (Rule rule : rules) {
                for (int x = 0; x < 6; x++) {
                    for (int y = 0; y < 6; y++) {
                        if (!now[rule.h][x][y] && gives(rule, x, y, now, taken)) {
                            now[rule.h][x][y] = true;
                            more = true;
                        }
                    }
                }
            }
        }
        return now;
    }

    private static boolean gives(Rule rule, int x, int y, boolean[][][] now, boolean[][][] taken) {
        boolean[][] a = now[rule.a];
        boolean[][] b = now[rule.b];
        switch (rule.shape) {
            case DatalogDelta.COPY:
                return a[x][y];
            case DatalogDelta.TURN:
                return a[y][x];
            case DatalogDelta.BOTH:
                return a[x][y] && b[x][y];
            case DatalogDelta.MINUS:
                return a[x][y] && !taken[rule.b][x][y];
            default:
                for (int between = 0; between < 6; between++) {
                    if (a[x][between] && b[between][y]) {
                        return true;
                    }
                }
                return false;
        }
    }
}
