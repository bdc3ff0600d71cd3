import java.util.HashMap;
import java.util.HashSet;
import java.util.Map;
import java.util.Set;

/** Promises 24 to 27 and 33: folded papers, duels, the ant, hooks, the game. */
public final class PlaneTest {
    private static final Due due = new Due();
    private static final int[] DX = {0, 1, 0, -1};
    private static final int[] DY = {1, 0, -1, 0};

    public static void main(String[] args) {
        folded();
        duel();
        ant();
        hooks();
        game();
        due.end();
    }

    private static void folded() {
        WindingSquare x = new WindingSquare();
        for (int n = 1; n <= 15; n++) {
            int px = 0;
            int py = 1;
            int facing = 0;
            for (int i = 1; i < 1 << n; i++) {
                int odd = i;
                while (odd % 2 == 0) {
                    odd /= 2;
                }
                boolean right = odd % 4 == 1;
                if (i < 40 || i > (1 << n) - 40) {
                    due.is("turn", x.folded(n, i, 0), right ? 1 : 0);
                }
                facing = (facing + (right ? 1 : 3)) % 4;
                px += DX[facing];
                py += DY[facing];
            }
            due.is("x", x.folded(n, -5, 1), px);
            due.is("y", x.folded(n, 1 << 30, 2), py);
            due.is("turn 0", x.folded(n, 0, 0), -1000);
            due.is("turn beyond", x.folded(n, 1 << n, 0), -1000);
        }
        due.is("n 0", x.folded(0, 1, 1), -1000);
        due.is("n 16", x.folded(16, 1, 1), -1000);
        due.is("n 33", x.folded(33, 1, 0), -1000);
        due.is("what -1", x.folded(1, 1, -1), -1000);
        due.is("what 3", x.folded(1, 1, 3), -1000);
    }

    private static void duel() {
        WindingSquare x = new WindingSquare();
        for (int a = 0; a <= 5; a++) {
            for (int b = 0; b <= 5; b++) {
                Map<Long, Integer> far = a + b == 0 ? new HashMap<>() : paces(a, b);
                for (int dx = -20; dx <= 20; dx += a == b ? 1 : 4) {
                    for (int dy = -20; dy <= 20; dy++) {
                        int want = far.getOrDefault(1000L * (dx + 100) + dy + 100, -1);
                        due.is("duel " + a + b + " " + dx + " " + dy, x.duel(10 * a + b, dx, dy), want);
                    }
                }
            }
        }
        int[][] wrong = {{-1, 0, 0}, {6, 0, 0}, {60, 0, 0}, {61, 1, 0}, {16, 1, 0}, {100, 0, 0}, {0, 0, 0}, {-10, 0, 0},
            {21, 21, 0}, {21, -21, 0}, {21, 0, 21}, {21, 0, -21}, {10, 13, 0}};
        for (int[] w : wrong) {
            due.is("duel", x.duel(w[0], w[1], w[2]), -1);
        }
        due.is("twelve", x.duel(10, 12, 0), 12);
    }

    private static Map<Long, Integer> paces(int a, int b) {
        Map<Long, Integer> far = new HashMap<>();
        Set<Long> edge = new HashSet<>();
        edge.add(100100L);
        far.put(100100L, 0);
        for (int n = 1; n <= 12; n++) {
            Set<Long> next = new HashSet<>();
            for (long at : edge) {
                for (int k = 0; k < 8; k++) {
                    int u = (k & 4) == 0 ? a : b;
                    int v = a + b - u;
                    long to = at + 1000L * ((k & 1) == 0 ? u : -u) + ((k & 2) == 0 ? v : -v);
                    if (far.putIfAbsent(to, n) == null) {
                        next.add(to);
                    }
                }
            }
            edge = next;
        }
        return far;
    }

    private static void ant() {
        WindingSquare x = new WindingSquare();
        Set<String> stones = new HashSet<>();
        int px = 0;
        int py = 0;
        int facing = 0;
        int most = 0;
        for (int n = 0; n <= 2000; n++) {
            if (n < 60 || n % 37 == 0 || n > 1990) {
                due.is("how many " + n, x.ant(n, 0), stones.size());
                due.is("x " + n, x.ant(n, 1), px);
                due.is("y " + n, x.ant(n, 2), py);
                due.is("the most " + n, x.ant(n, 3), most);
            }
            if (stones.add(px + " " + py)) {
                facing = (facing + 1) % 4;
            } else {
                stones.remove(px + " " + py);
                facing = (facing + 3) % 4;
            }
            most = Math.max(most, stones.size());
            px += DX[facing];
            py += DY[facing];
        }
        due.is("n -1", x.ant(-1, 0), -10000);
        due.is("n 2001", x.ant(2001, 1), -10000);
        due.is("what -1", x.ant(1, -1), -10000);
        due.is("what 4", x.ant(1, 4), -10000);
    }

    /** Lays the first open place of a yard of two rows in every way; bits 2 i and 2 i + 1 are column i. */
    private static long lay(long laid, int n, boolean slabs, Map<Long, Long> known) {
        int at = Long.numberOfTrailingZeros(~laid);
        if (at >= 2 * n) {
            return 1;
        }
        Long had = known.get(laid);
        if (had != null) {
            return had;
        }
        long[] shapes = at % 2 == 0 ? new long[] {0b11, 0b101, 0b111, 0b1011, 0b1101} : new long[] {0b101, 0b111};
        long sum = 0;
        for (long shape : shapes) {
            if (!slabs && Long.bitCount(shape) == 2) {
                continue;
            }
            if ((laid & shape << at) == 0 && (laid | shape << at) >>> 2 * n == 0) {
                sum += lay(laid | shape << at, n, slabs, known);
            }
        }
        known.put(laid, sum % 1000000007);
        return sum % 1000000007;
    }

    private static void hooks() {
        WindingSquare x = new WindingSquare();
        for (int n = 0; n <= 31; n++) {
            due.is("hooks " + n, x.hooks(n, 0), lay(0, n, true, new HashMap<>()));
            due.is("hooks alone " + n, x.hooks(n, 1), lay(0, n, false, new HashMap<>()));
        }
        long a = 1;
        long b = 1;
        long c = 2;
        for (int n = 3; n <= 40; n++) {
            long next = (2 * c + a) % 1000000007;
            a = b;
            b = c;
            c = next;
            due.is("hooks " + n, x.hooks(n, 0), next);
        }
        due.is("hooks alone 39", x.hooks(39, 1), 8192);
        due.is("hooks alone 40", x.hooks(40, 1), 0);
        due.is("hooks alone 0", x.hooks(0, 1), 1);
        due.is("n -1", x.hooks(-1, 0), -1);
        due.is("n 41", x.hooks(41, 1), -1);
        due.is("what -1", x.hooks(1, -1), -1);
        due.is("what 2", x.hooks(1, 2), -1);
    }

    private static final int[][] BENDS = {{-2, 1}, {-2, -1}, {1, -2}, {-1, -2}};

    private static int value(int x, int y, Map<Integer, Integer> known) {
        Integer had = known.get(1000 * y + x);
        if (had != null) {
            return had;
        }
        Set<Integer> reached = new HashSet<>();
        for (int[] bend : BENDS) {
            if (x + bend[0] >= 0 && y + bend[1] >= 0) {
                reached.add(value(x + bend[0], y + bend[1], known));
            }
        }
        int v = 0;
        while (reached.contains(v)) {
            v++;
        }
        known.put(1000 * y + x, v);
        return v;
    }

    private static void game() {
        due.is("where, asked first", new WindingSquare().game(3, 2, 1), 4);
        due.is("value, asked first", new WindingSquare().game(2, 1, 0), 2);
        WindingSquare g = new WindingSquare();
        Map<Integer, Integer> known = new HashMap<>();
        for (int y = 0; y <= 30; y++) {
            for (int x = 0; x <= 30; x++) {
                int where = Integer.MAX_VALUE;
                for (int[] bend : BENDS) {
                    int toX = x + bend[0];
                    int toY = y + bend[1];
                    if (toX >= 0 && toY >= 0 && value(toX, toY, known) == 0) {
                        where = Math.min(where, 61 * toY + toX);
                    }
                }
                due.is("where", g.game(x, y, 1), where == Integer.MAX_VALUE ? -1 : where);
                due.is("value", g.game(x, y, 0), value(x, y, known));
            }
        }
        int[][] wrong = {{-1, 0, 0}, {31, 0, 0}, {0, -1, 1}, {0, 31, 1}, {0, 0, 2}, {2, 1, -1}};
        for (int[] w : wrong) {
            due.is("game", g.game(w[0], w[1], w[2]), -1);
        }
    }
}
