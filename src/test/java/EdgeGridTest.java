/** The edges of promises 17 to 19, 28 and 32: what is asked of the cells in thought. */
public final class EdgeGridTest {
    private static final Due due = new Due();
    private static final int[] NO_CELLS = {Integer.MIN_VALUE, -1000, -2, -1, 144, 145, 1000, Integer.MAX_VALUE};

    public static void main(String[] args) {
        farBounds();
        farStones();
        farLeast();
        farJust();
        farApart();
        withBounds();
        withStones();
        withTurnsAlone();
        withSteps();
        seenBounds();
        seenHalves();
        seenEnds();
        seenAll();
        apartWhats();
        apartRows();
        apartSides();
        pigeonWhats();
        pigeonEdges();
        due.end();
    }

    private static WindingSquare stones(String... areas) {
        WindingSquare x = new WindingSquare();
        StringBuilder text = new StringBuilder();
        for (String area : areas) {
            text.append(area).append(";");
        }
        Due.good(x, 1, text.toString());
        return x;
    }

    private static int at(int x, int y) {
        return 12 * y + x;
    }

    private static void farBounds() {
        due.about("Promise 17", "NONE, too, if one can't be");
        WindingSquare x = new WindingSquare();
        for (int v : NO_CELLS) {
            due.is("from " + v, x.far(v, 0, 0, -1), -1);
            due.is("to " + v, x.far(0, 0, v, -1), -1);
            due.is("from " + v + " with 0", x.far(v, 0, 0, 0), -1);
            due.is("to " + v + " with 0", x.far(0, 0, v, 0), -1);
        }
        for (int v : new int[] {Integer.MIN_VALUE, -1, 4, 5, Integer.MAX_VALUE}) {
            due.is("facing " + v, x.far(0, v, 0, -1), -1);
            due.is("facing " + v + " with 0", x.far(0, v, 0, 0), -1);
        }
        for (int v : new int[] {Integer.MIN_VALUE, -3, -2, 7, 8, Integer.MAX_VALUE}) {
            due.is("t " + v, x.far(0, 0, 0, v), -1);
        }
        due.about("Promise 17", "FAR: from, to are 12 times y and x; the least (t NONE), with t just.");
        due.is("from the first to the last, facing 0", x.far(0, 0, 143, -1), 23);
        due.is("from the last to the first, facing 0", x.far(143, 0, 0, -1), 24);
        due.is("from the last to the first, facing 3", x.far(143, 3, 0, -1), 23);
        int[][] sides = {{0, 0, 132}, {0, 1, 11}, {143, 2, 11}, {143, 3, 132}};
        for (int[] s : sides) {
            due.is("along a side", x.far(s[0], s[1], s[2], 0), 11);
            due.is("along a side with one at the end", x.far(s[0], s[1], s[2], 1), 11);
            due.is("along a side, the least", x.far(s[0], s[1], s[2], -1), 11);
            due.is("across with one", x.far(s[0], s[1], 143 - s[0], 1), 22);
            due.is("across with two", x.far(s[0], s[1], 143 - s[0], 2), 22);
            due.is("across with six", x.far(s[0], s[1], 143 - s[0], 6), 22);
        }
        due.is("12 is y 1", x.far(0, 0, 12, -1), 1);
        due.is("1 is x 1", x.far(0, 1, 1, -1), 1);
        for (int t = 0; t <= 6; t++) {
            due.is("t " + t, x.far(66, 0, 66, t), 0);
        }
    }

    private static void farStones() {
        due.about("Promise 17", "NONE, too, if one can't be (a stone).");
        WindingSquare x = stones("stone 3 3", "snow 4 3", "sign 5 3");
        for (int t = -1; t <= 6; t++) {
            due.is("from a stone", x.far(at(3, 3), 0, at(6, 6), t), -1);
            due.is("to a stone", x.far(at(6, 6), 0, at(3, 3), t), -1);
            due.is("from a stone to itself", x.far(at(3, 3), 0, at(3, 3), t), -1);
        }
        due.is("from snow to a sign", x.far(at(4, 3), 1, at(5, 3), -1), 1);
        due.is("from a sign to snow", x.far(at(5, 3), 3, at(4, 3), 0), 1);
        due.about("Terms 4", "(by CELLS without a stone; WALKERS do not count");
        x = stones("stone 5 0 to 5 10");
        due.is("round the stones", x.far(at(4, 0), 1, at(6, 0), -1), 11 + 2 + 11 + 3);
        due.is("not straight", x.far(at(4, 0), 1, at(6, 0), 0), -1);
        x = new WindingSquare();
        x.walker(0);
        x.comes(0, 0, 5);
        due.is("through a walker", x.far(at(4, 0), 1, at(6, 0), 0), 2);
        due.is("to a walker", x.far(at(4, 0), 1, at(5, 0), -1), 1);
        due.is("from a walker", x.far(at(5, 0), 1, at(6, 0), -1), 1);
    }

    private static void farLeast() {
        due.about("Terms 4", "a step and a quarter turn cost one each): the least");
        WindingSquare x = new WindingSquare();
        int[][] one = {{6, 7}, {7, 6}, {6, 5}, {5, 6}};
        for (int facing = 0; facing < 4; facing++) {
            for (int way = 0; way < 4; way++) {
                int turns = new int[] {0, 1, 2, 1}[way - facing & 3];
                due.is("one step", x.far(at(6, 6), facing, at(one[way][0], one[way][1]), -1), 1 + turns);
            }
            due.is("no step", x.far(at(6, 6), facing, at(6, 6), -1), 0);
        }
        x = stones("stone 6 7", "stone 7 6");
        due.is("six steps and four turns about the stones", x.far(at(6, 6), 0, at(7, 7), -1), 10);
    }

    private static void farJust() {
        due.about("Terms 4", "with t (0 .. 6) quarter turns just: the fewest steps (NONE)");
        WindingSquare x = new WindingSquare();
        due.is("none: not round a corner", x.far(at(2, 2), 0, at(4, 5), 0), -1);
        due.is("one", x.far(at(2, 2), 0, at(4, 5), 1), 5);
        due.is("two: one up and one right, and up", x.far(at(2, 2), 0, at(4, 5), 2), 5);
        due.is("three", x.far(at(2, 2), 0, at(4, 5), 3), 5);
        due.is("six", x.far(at(2, 2), 0, at(4, 5), 6), 5);
        due.is("behind him with none", x.far(at(2, 2), 0, at(2, 0), 0), -1);
        due.is("behind him with one", x.far(at(2, 2), 0, at(2, 0), 1), -1);
        due.is("behind him with two", x.far(at(2, 2), 0, at(2, 0), 2), 2);
        due.is("beside him with two: a step more each way", x.far(at(2, 2), 0, at(3, 2), 2), 1);
        due.is("straight on with one", x.far(at(2, 2), 0, at(2, 5), 1), 3);
        x = stones("stone 0 1 to 10 1", "stone 1 3 to 11 3", "stone 0 5 to 10 5", "stone 1 7 to 11 7");
        due.is("to the end of y 4 with three", x.far(0, 1, at(11, 4), 3), -1);
        due.is("with four", x.far(0, 1, at(11, 4), 4), 11 + 2 + 11 + 2 + 11);
        due.is("with five, the last on the spot", x.far(0, 1, at(11, 4), 5), 37);
        due.is("one up with four", x.far(0, 1, at(11, 5), 4), -1);
        due.is("one up with five", x.far(0, 1, at(11, 5), 5), 38);
        due.is("round the next corner with five", x.far(0, 1, at(10, 6), 5), -1);
        due.is("round the next corner with six", x.far(0, 1, at(10, 6), 6), 40);
        due.is("to the end of y 6 with six", x.far(0, 1, at(0, 6), 6), 50);
        due.is("one up would be seven", x.far(0, 1, at(0, 7), 6), -1);
        due.is("but it is no matter for the least", x.far(0, 1, at(0, 7), -1), 51 + 7);
    }

    private static void farApart() {
        due.about("Terms 4", "the fewest steps (NONE)");
        WindingSquare x = stones("stone 0 5 to 11 5");
        for (int t = -1; t <= 6; t++) {
            due.is("nobody comes through", x.far(0, 0, 143, t), -1);
        }
        x.lay(11, 5, 2);
        due.is("by the gap", x.far(0, 1, 143, 1), 22);
        x = stones("stone 0 0 to 11 11", "bare 4 4", "bare 5 5");
        due.is("not by corners", x.far(at(4, 4), 0, at(5, 5), -1), -1);
        due.is("on the spot", x.far(at(4, 4), 0, at(4, 4), 6), 0);
    }

    private static void withBounds() {
        due.about("Promise 18", "NONE if one can't be (a stone).");
        WindingSquare x = new WindingSquare();
        for (int v : NO_CELLS) {
            due.is("from " + v, x.with(v, 0, 0, 0), -1);
            due.is("to " + v, x.with(0, 0, v, 0), -1);
        }
        for (int v : new int[] {Integer.MIN_VALUE, -1, 4, 5, Integer.MAX_VALUE}) {
            due.is("facing " + v, x.with(0, v, 0, 0), -1);
        }
        for (int v : new int[] {Integer.MIN_VALUE, -10, -1, 7, 8, 9, 17, 107, 207, 208, 209, 210, 211, 216, 1000,
            Integer.MAX_VALUE}) {
            due.is("nt " + v, x.with(0, 0, 0, v), -1);
        }
        due.about("Promise 18", "WITH: nt is 10 times n and t.");
        due.is("n 0, t 0", x.with(0, 0, 0, 0), 1);
        due.is("n 0, t 6", x.with(0, 0, 0, 6), 2);
        due.is("n 1, t 0", x.with(0, 0, 12, 10), 1);
        due.is("n 20, t 0: out of the square", x.with(0, 0, 132, 200), 0);
        due.is("n 20, t 1", x.with(0, 0, at(11, 9), 201), 1);
        due.is("n 20, t 1, the last cell", x.with(143, 2, at(0, 2), 201), 1);
        due.is("n 20, t 6", x.with(0, 0, at(11, 9), 206) > 0, true);
        for (int facing = 0; facing < 4; facing++) {
            int to = new int[] {66 + 12, 66 + 1, 66 - 12, 66 - 1}[facing];
            due.is("facing " + facing, x.with(66, facing, to, 10), 1);
        }
    }

    private static void withStones() {
        due.about("Promise 18", "(a stone)");
        WindingSquare x = stones("stone 3 3", "snow 4 3", "sign 5 3");
        for (int t = 0; t <= 6; t++) {
            due.is("from a stone", x.with(at(3, 3), 0, at(6, 6), t), -1);
            due.is("to a stone", x.with(at(6, 6), 0, at(3, 3), t), -1);
            due.is("from a stone to itself", x.with(at(3, 3), 0, at(3, 3), t), -1);
        }
        due.is("from snow to a sign", x.with(at(4, 3), 1, at(5, 3), 10), 1);
        due.is("through a stone", x.with(at(2, 3), 1, at(4, 3), 20), 0);
        due.is("round a stone, up or down", x.with(at(2, 3), 1, at(4, 3), 43), 2);
        due.is("and one turn more at the end, left or right", x.with(at(2, 3), 1, at(4, 3), 44), 4);
        x.walker(0);
        x.comes(0, 0, 5);
        due.is("through a walker", x.with(at(4, 0), 1, at(6, 0), 20), 1);
        x = stones("stone 0 0 to 11 11", "bare 4 4");
        due.is("no step", x.with(at(4, 4), 0, at(4, 4), 10), 0);
        due.is("two turns", x.with(at(4, 4), 0, at(4, 4), 2), 2);
    }

    private static void withTurnsAlone() {
        due.about("Terms 4", "in which no left is next to a right");
        WindingSquare x = new WindingSquare();
        for (int t = 1; t <= 6; t++) {
            due.is("all left or all right: " + t, x.with(66, 0, 66, t), 2);
            due.is("not elsewhere", x.with(66, 0, 67, t), 0);
        }
        due.is("left and right with a step between", x.with(66, 0, 66 + 12, 12), 2);
        due.is("by two steps to the corner: right and left, or right and any at the end", x.with(66, 0, 66 + 13, 22), 3);
    }

    /** Every row of one step and t turns is gone through by hand: so many turns before, the others behind. */
    private static void withSteps() {
        due.about("Terms 4", "WITH n (0 .. 20) steps and t (0 .. 6) turns just: in how many rows of steps and quarter turns");
        WindingSquare x = new WindingSquare();
        for (int t = 0; t <= 6; t++) {
            int[] to = new int[4];
            for (int before = 0; before <= t; before++) {
                int behind = t - before == 0 ? 1 : 2;
                if (before == 0) {
                    to[0] += behind;
                } else {
                    to[before & 3] += behind;
                    to[-before & 3] += behind;
                }
            }
            int[] where = {66 + 12, 66 + 1, 66 - 12, 66 - 1};
            for (int f = 0; f < 4; f++) {
                due.is("one step, turns " + t + ", way " + f, x.with(66, 0, where[f], 10 + t), to[f]);
            }
        }
        for (int n = 0; n <= 11; n++) {
            due.is("straight on, steps " + n, x.with(0, 0, 12 * n, 10 * n), 1);
        }
        due.is("twelve are too many", x.with(0, 0, 132, 120), 0);
        for (int n = 2; n <= 12; n++) {
            int aside = n - 1;
            int atTheEnd = 2;
            due.is("one aside with two turns, steps " + n, x.with(0, 0, at(1, n - 1), 10 * n + 2), aside + atTheEnd);
        }
    }

    private static void seenBounds() {
        due.about("Promise 19", "NONE if one can't be.");
        WindingSquare x = new WindingSquare();
        for (int v : NO_CELLS) {
            due.is("from " + v, x.seen(v, 0), -1);
            due.is("all from " + v, x.seen(v, -1), -1);
            if (v != -1) {
                due.is("to " + v, x.seen(0, v), -1);
            }
        }
        due.about("Promise 19", "SEEN from a CELL to a CELL (12 times y and x), or how many (to NONE).");
        due.is("the first, the last", x.seen(0, 143), 1);
        due.is("the last, the first", x.seen(143, 0), 1);
        due.is("how many", x.seen(0, -1), 144);
        due.is("how many", x.seen(143, -1), 144);
        x = stones("stone 1 0");
        due.is("12 is y 1", x.seen(0, 24), 1);
        due.is("2 is x 2", x.seen(0, 2), 0);
    }

    private static boolean hides(int stoneX, int stoneY, int from, int to) {
        return stones("stone " + stoneX + " " + stoneY).seen(from, to) == 0;
    }

    private static void seenHalves() {
        due.about("Terms 4", "the other number is the exact one on the line, to the nearest whole one, halves upwards");
        due.is("2 right, 1 up: 1, 1", hides(1, 1, at(0, 0), at(2, 1)), true);
        due.is("2 right, 1 up: not 1, 0", hides(1, 0, at(0, 0), at(2, 1)), false);
        due.is("2 right, 1 down: 1, 1", hides(1, 1, at(0, 1), at(2, 0)), true);
        due.is("2 right, 1 down: not 1, 0", hides(1, 0, at(0, 1), at(2, 0)), false);
        due.is("2 left, 1 up: 1, 1", hides(1, 1, at(2, 0), at(0, 1)), true);
        due.is("2 left, 1 up: not 1, 0", hides(1, 0, at(2, 0), at(0, 1)), false);
        due.is("2 left, 1 down: 1, 1", hides(1, 1, at(2, 1), at(0, 0)), true);
        due.is("2 left, 1 down: not 1, 0", hides(1, 0, at(2, 1), at(0, 0)), false);
        due.is("1 right, 2 up: 1, 1", hides(1, 1, at(0, 0), at(1, 2)), true);
        due.is("1 right, 2 up: not 0, 1", hides(0, 1, at(0, 0), at(1, 2)), false);
        due.is("1 left, 2 up: 1, 1", hides(1, 1, at(1, 0), at(0, 2)), true);
        due.is("1 left, 2 up: not 0, 1", hides(0, 1, at(1, 0), at(0, 2)), false);
        due.is("1 left, 2 down: 1, 1", hides(1, 1, at(1, 2), at(0, 0)), true);
        due.is("1 left, 2 down: not 0, 1", hides(0, 1, at(1, 2), at(0, 0)), false);
        due.is("a third is nearer below", hides(1, 0, at(0, 0), at(3, 1)), true);
        due.is("two thirds are nearer above", hides(2, 1, at(0, 0), at(3, 1)), true);
        due.is("a third is not above", hides(1, 1, at(0, 0), at(3, 1)), false);
        due.about("Terms 4", "at each step 1 .. L - 1 along it");
        for (int i = 0; i < 12; i++) {
            due.is("a stone at " + i + " along the row", hides(i, 4, at(0, 4), at(11, 4)), i > 0 && i < 11);
            due.is("a stone at " + i + " along the column", hides(4, i, at(4, 0), at(4, 11)), i > 0 && i < 11);
            due.is("a stone at " + i + " aslant", hides(i, i, at(0, 0), at(11, 11)), i > 0 && i < 11);
            due.is("a stone at " + i + " aslant", hides(i, 11 - i, at(11, 0), at(0, 11)), i > 0 && i < 11);
        }
        due.is("corners do not hide", stones("stone 1 0", "stone 0 1").seen(0, 13), 1);
        due.is("nor beside what is aslant", stones("stone 1 0", "stone 0 1", "stone 2 1", "stone 1 2").seen(0, 26), 1);
    }

    private static void seenEnds() {
        due.about("Terms 4", "(the ends are not asked)");
        WindingSquare x = stones("stone 0 0", "stone 5 0");
        due.is("from a stone to a stone", x.seen(0, 5), 1);
        due.is("from a stone", x.seen(0, 4), 1);
        due.is("to a stone", x.seen(4, 0), 1);
        due.is("behind a stone", x.seen(0, 6), 0);
        due.is("a stone itself", x.seen(0, 0), 1);
        due.is("snow and signs do not hide", stones("snow 1 0", "sign 2 0").seen(0, 3), 1);
        x = new WindingSquare();
        x.walker(0);
        x.comes(0, 0, 1);
        due.is("walkers do not hide", x.seen(0, 2), 1);
    }

    private static void seenAll() {
        due.about("Terms 4", "how many CELLS of all are seen (itself too)");
        WindingSquare x = stones("stone 0 0 to 11 11");
        due.is("all stones, from a corner", x.seen(0, -1), 4);
        due.is("all stones, from a side", x.seen(5, -1), 6);
        due.is("all stones, from within", x.seen(66, -1), 9);
        x = stones("stone 0 1 to 11 1");
        due.is("its row and two of the row of stones", x.seen(0, -1), 12 + 2);
        int count = 0;
        for (int to = 0; to < 144; to++) {
            count += x.seen(66, to);
        }
        due.is("as many as one by one", x.seen(66, -1), count);
    }

    private static void apartWhats() {
        due.about("Promise 28", "NONE for another what.");
        WindingSquare x = new WindingSquare();
        for (int v : new int[] {Integer.MIN_VALUE, -2, -1, 2, 3, Integer.MAX_VALUE}) {
            due.is("what " + v, x.apart(v), -1);
        }
        due.about("Promise 28", "AT ONCE what 0 the most, 1 the fewest CELLS.");
        due.is("the most", x.apart(0), 12);
        due.is("the fewest", x.apart(1), 12);
    }

    private static void apartRows() {
        due.about("Terms 4", "the most ways no two of which have a CELL in common; the fewest CELLS that must be stones, too,"
            + " so that there is none");
        for (int row : new int[] {0, 1, 6, 10, 11}) {
            for (int gaps = 0; gaps <= 12; gaps++) {
                WindingSquare x = new WindingSquare();
                for (int i = gaps; i < 12; i++) {
                    x.lay(i, row, 1);
                }
                due.is("row " + row + " gaps " + gaps, x.apart(0), gaps);
                due.is("row " + row + " gaps " + gaps, x.apart(1), gaps);
            }
        }
        WindingSquare x = stones("stone 0 3 to 4 3", "stone 7 3 to 11 3", "stone 0 7 to 6 7", "stone 8 7 to 11 7");
        due.is("the narrowest tells", x.apart(0), 1);
        due.is("the narrowest tells", x.apart(1), 1);
        x = stones("stone 0 0 to 11 11", "bare 4 0 to 4 11", "bare 9 0 to 9 11", "bare 4 5 to 9 5");
        due.is("two columns with a row between", x.apart(0), 2);
        due.is("two columns with a row between", x.apart(1), 2);
        x.lay(4, 3, 1);
        x.lay(9, 8, 1);
        due.is("over by the row", x.apart(0), 1);
    }

    private static void apartSides() {
        due.about("Terms 4", "from a CELL of y 0 to one of y 11 by CELLS without a stone (4 sides)");
        WindingSquare x = new WindingSquare();
        for (int i = 0; i < 12; i++) {
            x.lay(i, i, 1);
        }
        due.is("no way by a corner", x.apart(0), 0);
        due.is("none is needed", x.apart(1), 0);
        x = new WindingSquare();
        for (int i = 1; i < 11; i++) {
            x.lay(i, i, 1);
        }
        due.is("by both ends", x.apart(0), 2);
        x = new WindingSquare();
        for (int i = 0; i < 12; i++) {
            x.lay(i, 11 - i, 1);
        }
        due.is("nor by a corner the other way", x.apart(0), 0);
        x.lay(6, 5, 0);
        due.is("by the one that is taken", x.apart(0), 1);
        x = stones("stone 0 0 to 11 11");
        due.is("all stones", x.apart(0), 0);
        due.is("all stones", x.apart(1), 0);
        x = stones("stone 5 0 to 5 11");
        due.is("a column of stones", x.apart(0), 11);
        x = stones("stone 0 3 to 5 3", "stone 5 3 to 5 8", "stone 5 8 to 11 8");
        due.is("a wall that goes up", x.apart(0), 0);
        x.lay(5, 6, 2);
        due.is("a wall that goes up, with a gap", x.apart(0), 1);
        x.lay(5, 5, 0);
        due.is("with a gap of two", x.apart(1), 2);
        x = stones("stone 0 8 to 5 8", "stone 5 3 to 5 8", "stone 5 3 to 11 3");
        due.is("a wall that goes down", x.apart(0), 0);
        x.lay(5, 6, 3);
        due.is("a wall that goes down, with a gap", x.apart(1), 1);
        String[] winding = {"stone 0 9 to 8 9", "stone 8 6 to 8 9", "stone 3 6 to 8 6", "stone 3 3 to 3 6", "stone 3 3 to 11 3"};
        x = stones(winding);
        due.is("a wall that goes back and forth", x.apart(0), 0);
        due.is("a wall that goes back and forth", x.apart(1), 0);
        x.lay(6, 6, 0);
        due.is("with a gap", x.apart(0), 1);
        x.lay(5, 3, 0);
        due.is("with a gap behind a gap", x.apart(0), 2);
        String[] back = {"stone 0 2 to 8 2", "stone 8 2 to 8 5", "stone 3 5 to 8 5", "stone 3 5 to 3 8", "stone 3 8 to 11 8"};
        due.is("and so upwards", stones(back).apart(0), 0);
        x = stones("snow 0 5 to 5 5", "sign 6 5 to 11 5");
        x.walker(0);
        x.comes(0, 0, 4);
        due.is("snow, signs and walkers are no stones", x.apart(0), 12);
    }

    private static void pigeonWhats() {
        due.about("Promise 32", "NONE for another what.");
        WindingSquare x = stones("stone 5 0 to 5 11");
        for (int v : new int[] {Integer.MIN_VALUE, -2, -1, 3, 4, Integer.MAX_VALUE}) {
            due.is("what " + v, x.pigeons(v), -1);
        }
        due.about("Promise 32", "PIGEONS what 0 FLOCKS, 1 the greatest, 2 how many.");
        due.is("flocks", x.pigeons(0), 2);
        due.is("the greatest is the second", x.pigeons(1), 72);
        due.is("none has just one beside it", x.pigeons(2), 0);
        x = stones("stone 6 0 to 6 11");
        due.is("the greatest is the first", x.pigeons(1), 72);
        x = new WindingSquare();
        due.is("bare", x.pigeons(0), 1);
        due.is("bare", x.pigeons(1), 144);
        due.is("bare", x.pigeons(2), 0);
    }

    private static void pigeonEdges() {
        due.about("Terms 4", "CELLS without a stone that hang together (4 sides)");
        String all = "stone 0 0 to 11 11";
        int[][] want = {{0, 0, 0}, {1, 1, 0}, {1, 2, 2}, {2, 1, 0}, {1, 3, 2}, {1, 4, 0}, {4, 1, 0}, {1, 12, 2}, {1, 5, 4},
            {2, 2, 4}};
        String[][] bare = {{}, {"bare 0 0"}, {"snow 0 0 to 1 0"}, {"bare 0 0", "sign 1 1"}, {"bare 0 0 to 1 0", "bare 1 1"},
            {"bare 10 10 to 11 11"}, {"bare 0 0", "bare 11 0", "bare 0 11", "bare 11 11"}, {"bare 0 11 to 11 11"},
            {"bare 5 4 to 5 6", "bare 4 5 to 6 5"}, {"bare 11 0 to 11 1", "bare 0 1 to 0 2"}};
        for (int i = 0; i < want.length; i++) {
            String[] areas = new String[bare[i].length + 1];
            areas[0] = all;
            System.arraycopy(bare[i], 0, areas, 1, bare[i].length);
            WindingSquare x = stones(areas);
            for (int what = 0; what <= 2; what++) {
                due.is("square " + i + " what " + what, x.pigeons(what), want[i][what]);
            }
        }
        WindingSquare x = new WindingSquare();
        for (int i = 0; i < 144; i++) {
            if ((i % 12 + i / 12) % 2 == 0) {
                x.lay(i % 12, i / 12, 1);
            }
        }
        due.is("the most flocks", x.pigeons(0), 72);
        due.is("of one each", x.pigeons(1), 1);
        due.is("none beside", x.pigeons(2), 0);
    }
}
