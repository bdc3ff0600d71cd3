import java.util.ArrayDeque;
import java.util.Random;

/** Promises 17 to 19, 28 and 32, against plain searches on squares made by a fixed seed. */
public final class GridTest {
    private static final Due due = new Due();
    private static final int[] DX = {0, 1, 0, -1};
    private static final int[] DY = {1, 0, -1, 0};

    public static void main(String[] args) {
        wrongOnes();
        Random random = new Random(7);
        for (int i = 0; i < 60; i++) {
            int[] cells = new int[144];
            WindingSquare x = made(random, cells, i % 6 * 12);
            far(x, cells, random);
            seen(x, cells, random);
            apart(x, cells);
            pigeons(x, cells);
        }
        for (int i = 0; i < 12; i++) {
            int[] cells = new int[144];
            with(made(random, cells, i % 4 * 15), cells, random);
        }
        corners();
        due.end();
    }

    private static WindingSquare made(Random random, int[] cells, int percent) {
        WindingSquare x = new WindingSquare();
        for (int i = 0; i < 144; i++) {
            if (random.nextInt(100) < percent) {
                cells[i] = 1 + random.nextInt(100) / 90 * (1 + random.nextInt(2));
                x.lay(i % 12, i / 12, cells[i]);
            }
        }
        return x;
    }

    private static void wrongOnes() {
        WindingSquare x = new WindingSquare();
        x.lay(1, 0, 1);
        int[][] wrong = {{-1, 0, 0, 0}, {144, 0, 0, 0}, {0, -1, 0, 0}, {0, 4, 0, 0}, {0, 0, -1, 0}, {0, 0, 144, 0},
            {0, 0, 0, -2}, {0, 0, 0, 7}, {1, 0, 0, 0}, {0, 0, 1, 0}, {1, 0, 1, 0}, {1, 0, 1, -1}};
        for (int[] w : wrong) {
            due.is("far", x.far(w[0], w[1], w[2], w[3]), -1);
        }
        int[][] wrongWith = {{-1, 0, 0, 0}, {144, 0, 0, 0}, {0, -1, 0, 0}, {0, 4, 0, 0}, {0, 0, -1, 0}, {0, 0, 144, 0},
            {0, 0, 0, -1}, {0, 0, 0, 7}, {0, 0, 0, 9}, {0, 0, 0, 207}, {0, 0, 0, 210}, {1, 0, 0, 0}, {0, 0, 1, 0},
            {0, 0, 0, Integer.MIN_VALUE}, {0, 0, 0, Integer.MAX_VALUE}};
        for (int[] w : wrongWith) {
            due.is("with", x.with(w[0], w[1], w[2], w[3]), -1);
        }
        due.is("seen", x.seen(-1, 0), -1);
        due.is("seen", x.seen(144, -1), -1);
        due.is("seen", x.seen(0, 144), -1);
        due.is("seen", x.seen(0, -2), -1);
        due.is("a stone is seen", x.seen(0, 1), 1);
        due.is("from a stone", x.seen(1, 0), 1);
        due.is("behind it not", x.seen(0, 2), 0);
        due.is("apart", x.apart(-1), -1);
        due.is("apart", x.apart(2), -1);
        due.is("pigeons", x.pigeons(-1), -1);
        due.is("pigeons", x.pigeons(3), -1);
        x.walker(0);
        x.comes(0, 0, 5);
        due.is("walkers do not count", x.far(4, 1, 6, -1), 2);
        due.is("no stone on the way", x.far(0, 1, 2, 0), -1);
        due.is("with 20 and 6", x.with(0, 0, 0, 206) >= 0, true);
    }

    private static int on(int[] cells, int cell, int f) {
        int x = cell % 12 + DX[f];
        int y = cell / 12 + DY[f];
        return x < 0 || y < 0 || x > 11 || y > 11 || cells[12 * y + x] == 1 ? -1 : 12 * y + x;
    }

    /** Least steps for each cell, facing and turns used, by steps that cost 1 and turns that cost 0. */
    private static int[] byTurns(int[] cells, int from, int facing) {
        int[] best = new int[7 * 576];
        java.util.Arrays.fill(best, 9999);
        ArrayDeque<Integer> queue = new ArrayDeque<>();
        best[facing * 144 + from] = 0;
        queue.add(facing * 144 + from);
        while (!queue.isEmpty()) {
            int s = queue.poll();
            int t = s / 576;
            int f = s % 576 / 144;
            int c = s % 144;
            int to = on(cells, c, f);
            if (to >= 0 && best[t * 576 + f * 144 + to] > best[s] + 1) {
                best[t * 576 + f * 144 + to] = best[s] + 1;
                queue.addLast(t * 576 + f * 144 + to);
            }
            for (int k = 1; k <= 3 && t < 6; k += 2) {
                int next = (t + 1) * 576 + (f + k) % 4 * 144 + c;
                if (best[next] > best[s]) {
                    best[next] = best[s];
                    queue.addFirst(next);
                }
            }
        }
        return best;
    }

    private static int least(int[] cells, int from, int facing, int to) {
        int[] cost = new int[576];
        java.util.Arrays.fill(cost, 9999);
        cost[facing * 144 + from] = 0;
        boolean changed = true;
        while (changed) {
            changed = false;
            for (int s = 0; s < 576; s++) {
                int next = on(cells, s % 144, s / 144);
                int[] nexts = {next < 0 ? s : s / 144 * 144 + next, (s + 144) % 576, (s + 432) % 576};
                for (int n : nexts) {
                    if (cost[s] + 1 < cost[n]) {
                        cost[n] = cost[s] + 1;
                        changed = true;
                    }
                }
            }
        }
        int best = 9999;
        for (int f = 0; f < 4; f++) {
            best = Math.min(best, cost[f * 144 + to]);
        }
        return best == 9999 ? -1 : best;
    }

    private static void far(WindingSquare x, int[] cells, Random random) {
        int from = random.nextInt(144);
        int facing = random.nextInt(4);
        int[] best = byTurns(cells, from, facing);
        for (int i = 0; i < 12; i++) {
            int to = random.nextInt(144);
            boolean stone = cells[from] == 1 || cells[to] == 1;
            for (int t = 0; t <= 6; t++) {
                int want = 9999;
                for (int f = 0; f < 4; f++) {
                    want = Math.min(want, best[t * 576 + f * 144 + to]);
                }
                due.is("far", x.far(from, facing, to, t), stone || want == 9999 ? -1 : want);
            }
            if (i < 3) {
                due.is("far least", x.far(from, facing, to, -1), stone ? -1 : least(cells, from, facing, to));
            }
        }
    }

    /** Last: 0 a step or none, 1 left, 2 right; every row is gone through. */
    private static long rows(int[] cells, int[] at, int to, int n, int t) {
        if (n == 0 && t == 0) {
            return at[0] == to ? 1 : 0;
        }
        long sum = 0;
        int on = on(cells, at[0], at[1]);
        if (n > 0 && on >= 0) {
            sum += rows(cells, new int[] {on, at[1], 0}, to, n - 1, t);
        }
        if (t > 0 && at[2] != 2) {
            sum += rows(cells, new int[] {at[0], (at[1] + 3) % 4, 1}, to, n, t - 1);
        }
        if (t > 0 && at[2] != 1) {
            sum += rows(cells, new int[] {at[0], (at[1] + 1) % 4, 2}, to, n, t - 1);
        }
        return sum;
    }

    private static void with(WindingSquare x, int[] cells, Random random) {
        for (int i = 0; i < 60; i++) {
            int from = random.nextInt(144);
            int facing = random.nextInt(4);
            int to = Math.max(0, Math.min(143, from + random.nextInt(5) - 2 + 12 * (random.nextInt(5) - 2)));
            int n = random.nextInt(8);
            int t = random.nextInt(7);
            boolean stone = cells[from] == 1 || cells[to] == 1;
            long want = stone ? -1 : rows(cells, new int[] {from, facing, 0}, to, n, t);
            due.is("with", x.with(from, facing, to, 10 * n + t), want);
        }
        long all = 0;
        long wanted = 0;
        java.math.BigInteger[] big = byBig(cells, 66, 1);
        for (int to = 0; to < 144 && cells[66] != 1; to++) {
            if (cells[to] != 1) {
                all += x.with(66, 1, to, 206);
                wanted += big[to].mod(java.math.BigInteger.valueOf(1000000007)).longValue();
            }
        }
        due.is("with 20 and 6", all, wanted);
    }

    /** All rows of 20 steps and 6 turns, for each cell, by a plain count over rows of 26. */
    private static java.math.BigInteger[] byBig(int[] cells, int from, int facing) {
        java.math.BigInteger zero = java.math.BigInteger.ZERO;
        java.math.BigInteger[][] now = new java.math.BigInteger[21 * 7][576 * 3];
        for (java.math.BigInteger[] row : now) {
            java.util.Arrays.fill(row, zero);
        }
        now[0][facing * 144 + from] = java.math.BigInteger.ONE;
        for (int n = 0; n <= 20; n++) {
            for (int t = 0; t <= 6; t++) {
                for (int s = 0; s < 576 * 3; s++) {
                    java.math.BigInteger v = now[n * 7 + t][s];
                    int last = s / 576;
                    int f = s % 576 / 144;
                    int c = s % 144;
                    int on = on(cells, c, f);
                    if (v.signum() == 0) {
                        continue;
                    }
                    if (n < 20 && on >= 0) {
                        now[n * 7 + 7 + t][f * 144 + on] = now[n * 7 + 7 + t][f * 144 + on].add(v);
                    }
                    if (t < 6 && last != 2) {
                        int k = 576 + (f + 3) % 4 * 144 + c;
                        now[n * 7 + t + 1][k] = now[n * 7 + t + 1][k].add(v);
                    }
                    if (t < 6 && last != 1) {
                        int k = 1152 + (f + 1) % 4 * 144 + c;
                        now[n * 7 + t + 1][k] = now[n * 7 + t + 1][k].add(v);
                    }
                }
            }
        }
        java.math.BigInteger[] sums = new java.math.BigInteger[144];
        java.util.Arrays.fill(sums, zero);
        for (int s = 0; s < 576 * 3; s++) {
            sums[s % 144] = sums[s % 144].add(now[146][s]);
        }
        return sums;
    }

    private static boolean sees(int[] cells, int from, int to) {
        int x0 = from % 12;
        int y0 = from / 12;
        int dx = to % 12 - x0;
        int dy = to / 12 - y0;
        if (Math.abs(dx) >= Math.abs(dy)) {
            int length = Math.abs(dx);
            for (int i = 1; i < length; i++) {
                int y = (int) Math.floor(y0 + (double) dy * i / length + 0.5 + 1e-9);
                if (cells[12 * y + x0 + (dx > 0 ? i : -i)] == 1) {
                    return false;
                }
            }
            return true;
        }
        int length = Math.abs(dy);
        for (int i = 1; i < length; i++) {
            int x = (int) Math.floor(x0 + (double) dx * i / length + 0.5 + 1e-9);
            if (cells[12 * (y0 + (dy > 0 ? i : -i)) + x] == 1) {
                return false;
            }
        }
        return true;
    }

    private static void seen(WindingSquare x, int[] cells, Random random) {
        for (int i = 0; i < 4; i++) {
            int from = random.nextInt(144);
            int count = 0;
            for (int to = 0; to < 144; to++) {
                boolean want = sees(cells, from, to);
                count += want ? 1 : 0;
                due.is("seen " + from + " " + to, x.seen(from, to), want ? 1 : 0);
            }
            due.is("how many seen", x.seen(from, -1), count);
        }
    }

    /** The most ways by a flow: each cell is a node in and one out with a capacity of one. */
    private static int flow(int[] cells) {
        int[][] room = new int[290][290];
        for (int c = 0; c < 144; c++) {
            if (cells[c] == 1) {
                continue;
            }
            room[2 * c][2 * c + 1] = 1;
            for (int f = 0; f < 4; f++) {
                int to = on(cells, c, f);
                if (to >= 0) {
                    room[2 * c + 1][2 * to] = 1;
                }
            }
            if (c < 12) {
                room[288][2 * c] = 1;
            }
            if (c >= 132) {
                room[2 * c + 1][289] = 1;
            }
        }
        int flow = 0;
        while (push(room, 288, new boolean[290])) {
            flow++;
        }
        return flow;
    }

    private static boolean push(int[][] room, int at, boolean[] been) {
        if (at == 289) {
            return true;
        }
        been[at] = true;
        for (int to = 0; to < 290; to++) {
            if (room[at][to] > 0 && !been[to] && push(room, to, been)) {
                room[at][to]--;
                room[to][at]++;
                return true;
            }
        }
        return false;
    }

    private static void apart(WindingSquare x, int[] cells) {
        int want = flow(cells);
        due.is("apart(0)", x.apart(0), want);
        due.is("apart(1)", x.apart(1), want);
    }

    private static void pigeons(WindingSquare x, int[] cells) {
        int flocks = 0;
        int greatest = 0;
        int single = 0;
        boolean[] been = new boolean[144];
        for (int c = 0; c < 144; c++) {
            if (cells[c] == 1) {
                continue;
            }
            int size = flock(cells, c, been);
            flocks += size > 0 ? 1 : 0;
            greatest = Math.max(greatest, size);
            int beside = 0;
            for (int f = 0; f < 4; f++) {
                beside += on(cells, c, f) >= 0 ? 1 : 0;
            }
            single += beside == 1 ? 1 : 0;
        }
        due.is("flocks", x.pigeons(0), flocks);
        due.is("greatest", x.pigeons(1), greatest);
        due.is("one beside", x.pigeons(2), single);
    }

    private static int flock(int[] cells, int c, boolean[] been) {
        if (been[c]) {
            return 0;
        }
        been[c] = true;
        int size = 1;
        for (int f = 0; f < 4; f++) {
            int to = on(cells, c, f);
            size += to < 0 ? 0 : flock(cells, to, been);
        }
        return size;
    }

    private static void corners() {
        WindingSquare x = new WindingSquare();
        Due.tell(x, 1, "stone 0 0 to 11 11;");
        due.is("no flock", x.pigeons(0), 0);
        due.is("no flock", x.pigeons(1), 0);
        due.is("no flock", x.pigeons(2), 0);
        due.is("no way", x.apart(0), 0);
        due.is("no way", x.apart(1), 0);
        due.is("seen from a corner, all stones", x.seen(0, -1), 4);
        x.lay(0, 0, 0);
        x.lay(0, 1, 2);
        due.is("two cells with one beside", x.pigeons(2), 2);
        due.is("far", x.far(0, 2, 12, 2), 1);
        due.is("far", x.far(0, 2, 12, 1), -1);
        WindingSquare y = new WindingSquare();
        for (int i = 0; i < 12; i++) {
            y.lay(i, i, 1);
        }
        due.is("a chain by corners parts", y.apart(0), 0);
        for (int row = 0; row < 12; row += 11) {
            WindingSquare z = new WindingSquare();
            Due.tell(z, 1, "stone 0 " + row + " to 11 " + row + ";");
            due.is("a side of stones", z.apart(0), 0);
            z.lay(11, row, 3);
            due.is("but for its corner", z.apart(0), 1);
        }
        y.lay(5, 5, 0);
        due.is("but for one", y.apart(1), 1);
    }
}
