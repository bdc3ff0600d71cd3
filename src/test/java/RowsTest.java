import java.util.HashSet;
import java.util.Random;
import java.util.Set;

/** Promises 20 to 23, 29 and 30: rows of turns, moves, gaps. */
public final class RowsTest {
    private static final Due due = new Due();

    public static void main(String[] args) {
        telling();
        Random random = new Random(11);
        for (int i = 0; i < 400; i++) {
            known(random);
            round(random);
            hedge(random);
        }
        due.end();
    }

    private static void telling() {
        WindingSquare x = new WindingSquare();
        due.is("row -1", x.known(-1, 0), -1);
        due.is("row 2", x.known(2, -1), -1);
        due.is("v -2", x.known(0, -2), -1);
        due.is("v 3", x.known(0, 3), -1);
        for (int i = 1; i <= 12; i++) {
            due.is("known", x.known(1, i % 3), i);
        }
        due.is("the 13th", x.known(1, 0), -1);
        due.is("unlike sizes", x.one(0), 0);
        due.is("of an empty row", x.one(1), 1);
        due.is("the other row", x.known(0, 0), 1);
        due.is("emptied", x.known(1, -1), 0);
        due.is("anew", x.known(1, 1), 1);
        due.is("left for right", x.one(0), 1);
        due.is("two rows", x.one(1), 2);
        due.is("one(2)", x.one(2), -1);
        due.is("one(-1)", x.one(-1), -1);
        due.is("move -2", x.move(-2), -1);
        due.is("move 3", x.move(3), -1);
        for (int i = 1; i <= 24; i++) {
            due.is("move", x.move(0), i);
        }
        due.is("the 25th", x.move(0), -1);
        due.is("home", x.round(1), 24);
        due.is("about", x.round(3), -1);
        due.is("round(-1)", x.round(-1), -100);
        due.is("round(4)", x.round(4), -100);
        due.is("emptied", x.move(-1), 0);
        due.is("home", x.round(1), 0);
        WindingSquare y = new WindingSquare();
        int[] moves = {0, 0, 2, 0, 2, 0, 0, 2, 0};
        for (int v : moves) {
            y.move(v);
        }
        due.is("about, asked first", y.round(3), 4);
        y.move(0);
        due.is("about, not at home", y.round(3), -1);
        due.is("row -2", x.gap(-2, 0), -1);
        due.is("row 8", x.gap(8, 0), -1);
        due.is("at -1", x.gap(0, -1), -1);
        due.is("at 31", x.gap(0, 31), -1);
        for (int i = 1; i <= 8; i++) {
            due.is("gap", x.gap(8 - i, 30), i);
        }
        due.is("the ninth", x.gap(0, 0), -1);
        due.is("there and back", x.hedge(), 60);
        due.is("emptied, whatever at", x.gap(-1, 99), 0);
        due.is("none told", x.hedge(), 0);
        due.is("anew", x.gap(7, 3), 1);
        due.is("hedge", x.hedge(), 6);
    }

    private static void known(Random random) {
        WindingSquare x = new WindingSquare();
        int n = random.nextInt(13);
        StringBuilder first = new StringBuilder();
        int unit = 1 + random.nextInt(4);
        for (int i = 0; i < n; i++) {
            int v = random.nextInt(3) == 0 || i < unit ? random.nextInt(3) : first.charAt(i - unit) - '0';
            first.append((char) ('0' + v));
        }
        Set<String> rows = new HashSet<>();
        for (int k = 0; k < Math.max(1, n); k++) {
            String turned = first.substring(k) + first.substring(0, k);
            rows.add(turned);
            rows.add(turned.replace('0', 'r').replace('1', '0').replace('r', '1'));
        }
        String second = first.toString();
        if (random.nextInt(4) > 0) {
            second = rows.stream().sorted().skip(random.nextInt(rows.size())).findFirst().get();
        }
        if (random.nextInt(3) == 0 && n > 0) {
            int at = random.nextInt(n);
            second = second.substring(0, at) + (char) ('0' + random.nextInt(3)) + second.substring(at + 1);
        }
        for (int i = 0; i < n; i++) {
            x.known(0, first.charAt(i) - '0');
            x.known(1, second.charAt(i) - '0');
        }
        due.is("one(0) of " + first + " " + second, x.one(0), rows.contains(second) ? 1 : 0);
        due.is("one(1) of " + first, x.one(1), rows.size());
    }

    private static void round(Random random) {
        WindingSquare x = new WindingSquare();
        int n = random.nextInt(25);
        int wound = 0;
        int px = 0;
        int py = 0;
        int dx = 0;
        int dy = 1;
        int area = 0;
        java.util.Map<String, Integer> been = new java.util.HashMap<>();
        been.put("0 0", 1);
        for (int i = 0; i < n; i++) {
            int v = random.nextInt(2) == 0 ? 0 : random.nextInt(3);
            x.move(v);
            int oldX = dx;
            if (v == 1) {
                dx = -dy;
                dy = oldX;
                wound--;
            } else if (v == 2) {
                dx = dy;
                dy = -oldX;
                wound++;
            } else {
                area += px * (py + dy) - py * (px + dx);
                px += dx;
                py += dy;
                been.merge(px + " " + py, 1, Integer::sum);
            }
        }
        due.is("wound", x.round(0), wound);
        due.is("home", x.round(1), Math.abs(px) + Math.abs(py));
        due.is("again", x.round(2), been.values().stream().filter(v -> v > 1).count());
        due.is("about", x.round(3), px == 0 && py == 0 ? Math.abs(area) : -1);
    }

    private static int hedgeFrom(int[][] gaps, int n, int row, int at) {
        if (row == 8) {
            return at;
        }
        int best = Integer.MAX_VALUE;
        for (int i = 0; i < n; i++) {
            if (gaps[i][0] == row) {
                best = Math.min(best, Math.abs(at - gaps[i][1]) + hedgeFrom(gaps, n, row + 1, gaps[i][1]));
            }
        }
        return best == Integer.MAX_VALUE ? hedgeFrom(gaps, n, row + 1, at) : best;
    }

    private static void hedge(Random random) {
        WindingSquare x = new WindingSquare();
        int n = random.nextInt(9);
        int[][] gaps = new int[n][];
        for (int i = 0; i < n; i++) {
            gaps[i] = new int[] {random.nextInt(8), random.nextInt(31)};
            x.gap(gaps[i][0], gaps[i][1]);
        }
        due.is("hedge", x.hedge(), hedgeFrom(gaps, n, 0, 0));
    }
}
