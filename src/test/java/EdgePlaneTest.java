import java.math.BigInteger;

/** The edges of promises 24 to 27 and 33: folded papers, duels, the ant, hooks, the game. */
public final class EdgePlaneTest {
    private static final Due due = new Due();
    private static final int[] FAR_OUT = {Integer.MIN_VALUE, Integer.MIN_VALUE + 1, -10000, -1, 10000, 1 << 30,
        Integer.MAX_VALUE - 1, Integer.MAX_VALUE};

    public static void main(String[] args) {
        foldedBounds();
        foldedTurns();
        foldedEnds();
        duelNumbers();
        duelFar();
        duelTwelve();
        antBounds();
        antSteps();
        hooksBounds();
        hooksModulo();
        hooksAlone();
        gameBounds();
        gameBelow0();
        gameBeyond30();
        gameWhere();
        due.end();
    }

    private static void foldedBounds() {
        due.about("Promise 24", "NONE - 999 if one can't be, or another what.");
        WindingSquare x = new WindingSquare();
        for (int what = 0; what <= 2; what++) {
            due.is("n 0", x.folded(0, 1, what), -1000);
            due.is("n 16", x.folded(16, 1, what), -1000);
            for (int v : FAR_OUT) {
                due.is("n " + v, x.folded(v, 1, what), -1000);
            }
        }
        for (int n = 1; n <= 15; n += 14) {
            due.is("what -1", x.folded(n, 1, -1), -1000);
            due.is("what 3", x.folded(n, 1, 3), -1000);
            for (int v : FAR_OUT) {
                due.is("what " + v, x.folded(n, 1, v), -1000);
            }
        }
        due.about("Terms 4", "the i-th turn (1 .. 2 to n less 1)");
        for (int n = 1; n <= 15; n++) {
            int last = (1 << n) - 1;
            due.is("turn 0 of " + n, x.folded(n, 0, 0), -1000);
            due.is("the first of " + n, x.folded(n, 1, 0), 1);
            due.is("the last of " + n, x.folded(n, last, 0), n == 1 ? 1 : 0);
            due.is("one more of " + n, x.folded(n, last + 1, 0), -1000);
            for (int v : FAR_OUT) {
                if (v < 1 || v > last) {
                    due.is("turn " + v, x.folded(n, v, 0), -1000);
                }
            }
        }
        due.about("Promise 24", "1 x, 2 y (i not asked)");
        for (int v : FAR_OUT) {
            due.is("x of 1, i " + v, x.folded(1, v, 1), 1);
            due.is("y of 1, i " + v, x.folded(1, v, 2), 1);
        }
        due.is("x of 2, i 0", x.folded(2, 0, 1), 2);
        due.is("y of 2, i 4", x.folded(2, 4, 2), 0);
    }

    private static void foldedTurns() {
        due.about("Terms 4", "1 right, 0 left: right, if i without all its factors 2 is 1 more than a multiple of 4");
        WindingSquare x = new WindingSquare();
        int[] first = {1, 1, 0, 1, 1, 0, 0, 1, 1, 1, 0, 0, 1, 0, 0};
        for (int i = 1; i <= 15; i++) {
            for (int n = 4; n <= 15; n += 11) {
                due.is("turn " + i, x.folded(n, i, 0), first[i - 1]);
            }
        }
        for (int k = 0; k < 15; k++) {
            due.is("2 to " + k, x.folded(15, 1 << k, 0), 1);
            if (k < 14) {
                due.is("3 times 2 to " + k, x.folded(15, 3 << k, 0), 0);
            }
            if (k < 13) {
                due.is("5 times 2 to " + k, x.folded(15, 5 << k, 0), 1);
            }
        }
    }

    private static void foldedEnds() {
        due.about("Terms 4", "where it ends (x, y), from the origin, first up, one step each");
        WindingSquare x = new WindingSquare();
        int[] dx = {0, 1, 0, -1};
        int[] dy = {1, 0, -1, 0};
        for (int n = 1; n <= 15; n++) {
            int px = 0;
            int py = 1;
            int facing = 0;
            for (int i = 1; i < 1 << n; i++) {
                int odd = i >> Integer.numberOfTrailingZeros(i);
                facing = facing + (odd % 4 == 1 ? 1 : 3) & 3;
                px += dx[facing];
                py += dy[facing];
            }
            due.is("x of " + n, x.folded(n, 1, 1), px);
            due.is("y of " + n, x.folded(n, 1, 2), py);
        }
    }

    private static void duelNumbers() {
        due.about("Promise 25", "ab is 10 times a and b. NONE, too, if one can't be.");
        WindingSquare x = new WindingSquare();
        for (int ab = -70; ab <= 130; ab++) {
            boolean can = ab > 0 && ab / 10 <= 5 && ab % 10 <= 5;
            due.is("ab " + ab + " on the spot", x.duel(ab, 0, 0), can ? 0 : -1);
            if (can) {
                due.is("one step a by b", x.duel(ab, ab / 10, ab % 10), 1);
                due.is("the other way round", x.duel(ab, -(ab % 10), ab / 10), 1);
            }
        }
        for (int v : FAR_OUT) {
            due.is("ab " + v, x.duel(v, 0, 0), -1);
        }
        due.about("Terms 4", "steps of a by b (0 .. 5 each, not both 0; all ways and the other way round)");
        due.is("0 by 0", x.duel(0, 0, 0), -1);
        due.is("0 by 0 to elsewhere", x.duel(0, 1, 0), -1);
        int[][] ways = {{1, 2}, {2, 1}, {2, -1}, {1, -2}, {-1, -2}, {-2, -1}, {-2, 1}, {-1, 2}};
        for (int[] w : ways) {
            due.is("12", x.duel(12, w[0], w[1]), 1);
            due.is("21", x.duel(21, w[0], w[1]), 1);
        }
        int[][] straight = {{5, 0}, {0, 5}, {-5, 0}, {0, -5}};
        for (int[] w : straight) {
            due.is("5", x.duel(5, w[0], w[1]), 1);
            due.is("50", x.duel(50, w[0], w[1]), 1);
        }
        due.is("5 by 5", x.duel(55, -5, 5), 1);
        due.is("5 by 5 not to 5, 0", x.duel(55, 5, 0), -1);
    }

    private static void duelFar() {
        due.about("Terms 4", "how many to dx, dy (-20 .. 20 each)");
        WindingSquare x = new WindingSquare();
        int[][] corners = {{20, 20}, {-20, 20}, {20, -20}, {-20, -20}};
        for (int[] c : corners) {
            due.is("the corner", x.duel(55, c[0], c[1]), 4);
            due.is("beyond in x", x.duel(55, c[0] + (c[0] > 0 ? 1 : -1), c[1]), -1);
            due.is("beyond in y", x.duel(55, c[0], c[1] + (c[1] > 0 ? 1 : -1)), -1);
        }
        int[][] near = {{20, 0}, {-20, 0}, {0, 20}, {0, -20}};
        int[][] beyond = {{21, 5}, {-21, 5}, {5, 21}, {5, -21}};
        for (int i = 0; i < 4; i++) {
            due.is("four steps of 5 by 1", x.duel(51, near[i][0], near[i][1]), 4);
            due.is("five steps would be", x.duel(51, beyond[i][0], beyond[i][1]), -1);
        }
        due.is("20, 0", x.duel(50, 20, 0), 4);
        due.is("25, 0 can't be asked", x.duel(50, 25, 0), -1);
        due.is("0, -25 can't be asked", x.duel(50, 0, -25), -1);
        for (int v : FAR_OUT) {
            if (v != -1) {
                due.is("dx " + v, x.duel(10, v, 0), -1);
                due.is("dy " + v, x.duel(10, 0, v), -1);
            }
        }
    }

    private static void duelTwelve() {
        due.about("Terms 4", "the fewest, 12 at most (NONE)");
        WindingSquare x = new WindingSquare();
        for (int dx = -13; dx <= 13; dx++) {
            int far = Math.abs(dx);
            due.is("0 by 1 along x " + dx, x.duel(1, dx, 0), far <= 12 ? far : -1);
            due.is("1 by 0 along y " + dx, x.duel(10, 0, dx), far <= 12 ? far : -1);
        }
        due.is("twelve", x.duel(10, 6, -6), 12);
        due.is("thirteen", x.duel(10, 7, -6), -1);
        due.is("fourteen", x.duel(10, 7, -7), -1);
        due.is("1 by 1 to 12, 12", x.duel(11, 12, 12), 12);
        due.is("1 by 1 to 13, 13", x.duel(11, 13, 13), -1);
        due.is("1 by 1 to 12, 0", x.duel(11, 12, 0), 12);
        due.is("2 by 2 never to odd ones", x.duel(22, 3, 3), -1);
        for (int[] c : new int[][] {{-19, -19}, {19, 19}, {-19, 19}, {19, -19}, {-20, 20}}) {
            due.is("3 by 3 only to multiples of 3", x.duel(33, c[0], c[1]), -1);
        }
        due.is("3 by 3 to 18, -18", x.duel(33, 18, -18), 6);
        due.is("4 by 2 never to odd ones", x.duel(42, 2, 1), -1);
        due.is("there and back by great steps", x.duel(45, 0, 1) > 0, true);
        for (int i = 0; i < 2; i++) {
            due.is("one asked behind another", x.duel(55, -20, 20), 4);
            due.is("one asked behind another", x.duel(10, 6, -6), 12);
            due.is("one asked behind another", x.duel(21, 1, 1), 2);
            due.is("one asked behind another", x.duel(10, 12, 0), 12);
        }
    }

    private static void antBounds() {
        due.about("Promise 26", "NONE - 9999 if one can't be, or another what.");
        WindingSquare x = new WindingSquare();
        for (int what = 0; what <= 3; what++) {
            due.is("n -1", x.ant(-1, what), -10000);
            due.is("n 2001", x.ant(2001, what), -10000);
            for (int v : FAR_OUT) {
                due.is("n " + v, x.ant(v, what), -10000);
            }
        }
        due.is("what -1", x.ant(0, -1), -10000);
        due.is("what 4", x.ant(0, 4), -10000);
        for (int v : FAR_OUT) {
            due.is("what " + v, x.ant(0, v), -10000);
        }
        due.about("Terms 4", "n (0 .. 2000) times");
        for (int what = 0; what <= 3; what++) {
            due.is("n 0", x.ant(0, what), 0);
            due.is("n 2000", x.ant(2000, what), ant(2000)[what]);
            due.is("n 1999", x.ant(1999, what), ant(1999)[what]);
        }
    }

    /** How many, x, y, the most; by a board that is far too wide. */
    private static int[] ant(int n) {
        boolean[][] stone = new boolean[4100][4100];
        int px = 2050;
        int py = 2050;
        int facing = 0;
        int count = 0;
        int most = 0;
        for (int i = 0; i < n; i++) {
            facing = facing + (stone[px][py] ? 3 : 1) & 3;
            count += stone[px][py] ? -1 : 1;
            stone[px][py] = !stone[px][py];
            most = Math.max(most, count);
            px += facing == 1 ? 1 : facing == 3 ? -1 : 0;
            py += facing == 0 ? 1 : facing == 2 ? -1 : 0;
        }
        return new int[] {count, px - 2050, py - 2050, most};
    }

    private static void antSteps() {
        due.about("Terms 4", "on bare it turns right, lays a stone, goes on; on a stone it turns left, takes it up, goes on:"
            + " how many stones; x; y; the most there were");
        WindingSquare x = new WindingSquare();
        int[][] first = {{0, 0, 0, 0}, {1, 1, 0, 1}, {2, 1, -1, 2}, {3, 0, -1, 3}, {4, 0, 0, 4}, {3, -1, 0, 4}, {4, -1, 1, 4},
            {5, 0, 1, 5}, {6, 0, 0, 6}, {7, -1, 0, 7}, {6, -1, -1, 7}};
        for (int n = 0; n < first.length; n++) {
            for (int what = 0; what <= 3; what++) {
                due.is("n " + n + " what " + what, x.ant(n, what), first[n][what]);
            }
        }
    }

    private static void hooksBounds() {
        due.about("Promise 27", "NONE if one can't be, or another what.");
        WindingSquare x = new WindingSquare();
        for (int what = 0; what <= 1; what++) {
            due.is("n -1", x.hooks(-1, what), -1);
            due.is("n 41", x.hooks(41, what), -1);
            for (int v : FAR_OUT) {
                due.is("n " + v, x.hooks(v, what), -1);
            }
        }
        due.is("what -1", x.hooks(3, -1), -1);
        due.is("what 2", x.hooks(3, 2), -1);
        for (int v : FAR_OUT) {
            due.is("what " + v, x.hooks(3, v), -1);
        }
        due.about("Terms 4", "a yard of 2 by n (0 .. 40) laid with hooks of three (L) and slabs of two: in how many ways");
        int[] first = {1, 1, 2, 5, 11, 24, 53};
        for (int n = 0; n < first.length; n++) {
            due.is("n " + n, x.hooks(n, 0), first[n]);
        }
    }

    /** By columns: f whole, g with one cell of the next column laid already. */
    private static BigInteger exact(int n) {
        BigInteger[] whole = new BigInteger[n + 3];
        BigInteger[] half = new BigInteger[n + 3];
        whole[0] = BigInteger.ONE;
        half[0] = BigInteger.ZERO;
        whole[1] = BigInteger.ONE;
        half[1] = BigInteger.ZERO;
        for (int i = 2; i <= n; i++) {
            half[i] = half[i - 1].add(whole[i - 2]);
            whole[i] = whole[i - 1].add(whole[i - 2]).add(half[i - 1].multiply(BigInteger.TWO));
        }
        return whole[n];
    }

    private static void hooksModulo() {
        due.about("Terms 4", "in how many ways (modulo 1000000007)");
        WindingSquare x = new WindingSquare();
        BigInteger modulus = BigInteger.valueOf(1000000007);
        boolean below = false;
        boolean above = false;
        for (int n = 0; n <= 40; n++) {
            BigInteger ways = exact(n);
            due.is("n " + n, x.hooks(n, 0), ways.mod(modulus).longValue());
            below |= ways.compareTo(modulus) < 0;
            above |= ways.compareTo(modulus) >= 0;
        }
        due.is("some are below it, some above", below && above, true);
    }

    private static void hooksAlone() {
        due.about("Terms 4", "with hooks alone");
        WindingSquare x = new WindingSquare();
        for (int n = 0; n <= 40; n++) {
            int ways = n % 3 == 0 ? (int) Math.round(Math.pow(2, n / 3)) : 0;
            due.is("n " + n, x.hooks(n, 1), ways);
        }
        due.is("n 0: one way to lay nothing", x.hooks(0, 1), 1);
        due.is("n 39", x.hooks(39, 1), 8192);
    }

    private static void gameBounds() {
        due.about("Promise 33", "NONE, too, if one can't be, or another what.");
        WindingSquare x = new WindingSquare();
        for (int what = 0; what <= 1; what++) {
            due.is("x -1", x.game(-1, 5, what), -1);
            due.is("y -1", x.game(5, -1, what), -1);
            due.is("x 31", x.game(31, 5, what), -1);
            due.is("y 31", x.game(5, 31, what), -1);
            for (int v : FAR_OUT) {
                due.is("x " + v, x.game(v, 5, what), -1);
                due.is("y " + v, x.game(5, v, what), -1);
            }
        }
        due.is("what -1", x.game(5, 5, -1), -1);
        due.is("what 2", x.game(5, 5, 2), -1);
        for (int v : FAR_OUT) {
            due.is("what " + v, x.game(5, 5, v), -1);
        }
        due.is("0, 30", x.game(0, 30, 0) >= 0, true);
        due.is("30, 0", x.game(30, 0, 0) >= 0, true);
        due.is("30, 30", x.game(30, 30, 0) >= 0, true);
    }

    private static void gameBelow0() {
        due.about("Terms 4", "none below 0; who can't go loses");
        WindingSquare x = new WindingSquare();
        int[][] lost = {{0, 0}, {1, 0}, {0, 1}, {1, 1}};
        for (int[] at : lost) {
            due.is("nobody can go", x.game(at[0], at[1], 0), 0);
            due.is("nowhere", x.game(at[0], at[1], 1), -1);
        }
        due.is("2, 0: to 0, 1 alone", x.game(2, 0, 0), 1);
        due.is("2, 0: to 0, 1", x.game(2, 0, 1), 61);
        due.is("0, 2: to 1, 0 alone", x.game(0, 2, 0), 1);
        due.is("0, 2: to 1, 0", x.game(0, 2, 1), 1);
        due.is("3, 0: to 1, 1 alone", x.game(3, 0, 0), 1);
        due.is("3, 0: to 1, 1", x.game(3, 0, 1), 62);
        due.is("1, 2: to 2, 0 or 0, 0", x.game(1, 2, 0), 2);
        due.is("1, 2: to 0, 0", x.game(1, 2, 1), 0);
        due.is("4, 0: to 2, 1 alone", x.game(4, 0, 0), 0);
        due.is("4, 0: to 2, 1, which is no good", x.game(4, 0, 1), -1);
    }

    private static final int[][] BENDS = {{-2, 1}, {-2, -1}, {1, -2}, {-1, -2}};

    /** Values of all places whose x and y add to 60 at most, without a bound above. */
    private static int[][] values() {
        int[][] v = new int[70][70];
        for (int sum = 0; sum <= 60; sum++) {
            for (int x = 0; x <= sum; x++) {
                boolean[] reached = new boolean[6];
                for (int[] b : BENDS) {
                    int toX = x + b[0];
                    int toY = sum - x + b[1];
                    if (toX >= 0 && toY >= 0) {
                        reached[v[toX][toY]] = true;
                    }
                }
                while (reached[v[x][sum - x]]) {
                    v[x][sum - x]++;
                }
            }
        }
        return v;
    }

    private static void gameBeyond30() {
        due.about("Terms 4", "GAME on x, y (0 .. 30)");
        WindingSquare x = new WindingSquare();
        int[][] v = values();
        for (int i = 0; i <= 30; i++) {
            due.is("30, " + i, x.game(30, i, 0), v[30][i]);
            due.is(i + ", 30", x.game(i, 30, 0), v[i][30]);
            due.is("0, " + i, x.game(0, i, 0), v[0][i]);
            due.is(i + ", 0", x.game(i, 0, 0), v[i][0]);
            due.is(i + ", " + i, x.game(i, i, 0), v[i][i]);
        }
    }

    private static void gameWhere() {
        due.about("Terms 4", "where who begins well goes (61 times y and x; the least; NONE)");
        int[][] v = values();
        int several = 0;
        for (int i = 0; i <= 30; i++) {
            WindingSquare g = new WindingSquare();
            for (int k = 0; k <= 30; k++) {
                int least = Integer.MAX_VALUE;
                int good = 0;
                for (int[] b : BENDS) {
                    int toX = i + b[0];
                    int toY = k + b[1];
                    if (toX >= 0 && toY >= 0 && v[toX][toY] == 0) {
                        good++;
                        least = Math.min(least, 61 * toY + toX);
                    }
                }
                several += good > 1 ? 1 : 0;
                due.is("where from " + i + ", " + k, g.game(i, k, 1), good == 0 ? -1 : least);
            }
        }
        due.is("some can go to several", several > 0, true);
    }
}
