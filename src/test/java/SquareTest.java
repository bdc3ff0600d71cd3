/** Promises 1 to 7, 12 to 14 and 36: the square, its walkers, what is done by hand, minutes, the book. */
public final class SquareTest {
    private static final Due due = new Due();

    public static void main(String[] args) {
        fresh();
        draws();
        walkers();
        comings();
        turns();
        layings();
        walking();
        standingBefore();
        leaving();
        slipping();
        slippingFurther();
        caught();
        manyMinutes();
        fullBook();
        due.end();
    }

    private static void fresh() {
        WindingSquare x = new WindingSquare();
        for (int what = 0; what <= 11; what++) {
            due.is("new look " + what, x.look(what), 0);
        }
        due.is("look(-1)", x.look(-1), -1);
        due.is("look(12)", x.look(12), -1);
        for (int i = 0; i < 144; i++) {
            due.is("new cell", x.cell(i % 12, i / 12, 0), 0);
            due.is("nobody", x.cell(i % 12, i / 12, 1), -1);
        }
        due.is("fault(0)", x.fault(0), 0);
        due.is("fault(1)", x.fault(1), -1);
        due.is("fault(2)", x.fault(2), -1);
        due.is("fault(-1)", x.fault(-1), -1);
        due.is("no undo", x.undo(), false);
        due.is("no image", x.image(false), false);
    }

    private static void draws() {
        WindingSquare x = new WindingSquare();
        due.is("state", x.state(17), 0);
        due.is("state", x.state(Integer.MIN_VALUE), 17);
        due.is("look(6)", x.look(6), Integer.MIN_VALUE);
        due.is("state", x.state(-1), Integer.MIN_VALUE);
        due.is("look(6) may be -1", x.look(6), -1);
    }

    private static void walkers() {
        WindingSquare x = new WindingSquare();
        due.is("haste -1", x.walker(-1), -1);
        due.is("haste 10", x.walker(10), -1);
        for (int i = 0; i < 16; i++) {
            due.is("walker", x.walker(i % 10), i);
        }
        due.is("the 17th", x.walker(0), -1);
        due.is("look(0)", x.look(0), 16);
        due.is("haste", x.of(13, 0), 3);
        due.is("in", x.of(13, 1), 0);
        for (int what = 2; what <= 7; what++) {
            due.is("not in", x.of(13, what), -1);
        }
        for (int what = 8; what <= 10; what++) {
            due.is("at first", x.of(13, what), 0);
        }
        due.is("slips", x.of(13, 11), 60);
        due.is("sees", x.of(13, 12), 0);
        due.is("pays", x.of(13, 13), 10);
        due.is("of what 14", x.of(13, 14), -2);
        due.is("of what -1", x.of(13, -1), -2);
        due.is("of 16", x.of(16, 0), -2);
        due.is("of -1", x.of(-1, 0), -2);
    }

    private static void comings() {
        int[][] where = {{4, 0}, {0, 4}, {4, 11}, {11, 4}};
        for (int side = 0; side < 4; side++) {
            WindingSquare x = new WindingSquare();
            x.walker(1);
            due.is("comes", x.comes(0, side, 4), true);
            due.is("x", x.of(0, 2), where[side][0]);
            due.is("y", x.of(0, 3), where[side][1]);
            due.is("facing", x.of(0, 4), side);
            due.is("side", x.of(0, 7), side);
            due.is("who", x.cell(where[side][0], where[side][1], 1), 0);
            due.is("line what", x.book(0, 1), 0);
            due.is("line who", x.book(0, 2), 0);
            due.is("line where", x.book(0, 3), 12 * where[side][1] + where[side][0]);
        }
        WindingSquare x = new WindingSquare();
        x.walker(1);
        x.walker(1);
        due.is("side -1", x.comes(0, -1, 4), false);
        due.is("side 4", x.comes(0, 4, 4), false);
        due.is("k -1", x.comes(0, 0, -1), false);
        due.is("k 12", x.comes(0, 0, 12), false);
        due.is("walker 2", x.comes(2, 0, 0), false);
        due.is("walker -1", x.comes(-1, 0, 0), false);
        x.lay(0, 0, 1);
        due.is("on a stone", x.comes(0, 0, 0), false);
        due.is("on a stone", x.comes(0, 1, 0), false);
        due.is("comes", x.comes(0, 0, 11), true);
        due.is("again", x.comes(0, 0, 5), false);
        due.is("on another one", x.comes(1, 3, 0), false);
        due.is("refused: no line", x.look(5), 1);
        due.is("comes", x.comes(1, 3, 1), true);
        due.is("those in", x.look(1), 3);
    }

    private static void turns() {
        WindingSquare x = new WindingSquare();
        x.walker(1);
        due.is("not in", x.turn(0, 0), false);
        x.lay(4, 0, 3);
        x.comes(0, 0, 4);
        due.is("how -1", x.turn(0, -1), false);
        due.is("how 3", x.turn(0, 3), false);
        due.is("none such", x.turn(1, 0), false);
        due.is("left", x.turn(0, 0), true);
        due.is("facing", x.of(0, 4), 3);
        due.is("turns", x.of(0, 5), 1);
        due.is("signs", x.of(0, 6), 1);
        due.is("back", x.turn(0, 2), true);
        due.is("facing", x.of(0, 4), 1);
        due.is("turns", x.of(0, 5), 3);
        due.is("signs", x.of(0, 6), 3);
        due.is("right", x.turn(0, 1), true);
        due.is("facing", x.of(0, 4), 2);
        due.is("lines", x.look(5), 4);
        due.is("line", x.book(2, 1), 1);
        due.is("line", x.book(2, 3), 4);
        x.lay(4, 0, 0);
        x.turn(0, 1);
        due.is("turns", x.of(0, 5), 5);
        due.is("no sign there", x.of(0, 6), 4);
        due.is("pays less by turns", x.of(0, 13), 5);
    }

    private static void layings() {
        WindingSquare x = new WindingSquare();
        x.walker(1);
        x.comes(0, 0, 4);
        int[][] wrong = {{-1, 0, 1}, {12, 0, 1}, {0, -1, 1}, {0, 12, 1}, {0, 0, -1}, {0, 0, 4}, {4, 0, 1}, {0, 0, 0}};
        for (int[] w : wrong) {
            due.is("lay", x.lay(w[0], w[1], w[2]), false);
        }
        due.is("undoable", x.look(11), 1);
        due.is("snow below a walker", x.lay(4, 0, 2), true);
        due.is("cell", x.cell(4, 0, 0), 2);
        due.is("snow counts", x.of(0, 11), 320);
        due.is("stone", x.lay(11, 11, 1), true);
        due.is("stone again", x.lay(11, 11, 1), false);
        due.is("sign over it", x.lay(11, 11, 3), true);
        due.is("stones", x.look(4), 0);
        due.is("lines: none for laying", x.look(5), 1);
        due.is("cell", x.cell(-1, 0, 0), -2);
        due.is("cell", x.cell(0, -1, 0), -2);
        due.is("cell", x.cell(0, 12, 1), -2);
        due.is("cell", x.cell(0, 0, -1), -2);
    }

    private static void walking() {
        WindingSquare x = new WindingSquare();
        x.walker(0);
        x.lay(4, 2, 3);
        due.is("ways", Due.tell(x, 2, "walker 0 back; walker 0 ahead 2 wait 3 right back left ahead 1;"), 2);
        x.comes(0, 0, 4);
        int[][] path = {{4, 1, 0, 0, 0}, {4, 2, 0, 0, 0}, {4, 2, 0, 0, 0}, {4, 2, 0, 0, 0}, {4, 2, 0, 0, 0},
            {4, 2, 1, 1, 1}, {4, 2, 3, 3, 3}, {4, 2, 2, 4, 4}, {4, 1, 2, 4, 4}, {4, 0, 2, 4, 4}};
        for (int i = 0; i < path.length; i++) {
            due.is("goes", x.goes(1, 0), 1);
            due.is("minutes", x.minutes(1), 0);
            for (int k = 0; k < 5; k++) {
                due.is("minute " + i + " what " + (k + 2), x.of(0, k + 2), path[i][k]);
            }
        }
        due.is("a turn has one line", x.look(5), 4);
        due.is("minute of the back", x.book(2, 0), 6);
        due.is("over", x.over(0), 1);
        due.is("out where he came from", x.minutes(1), 0);
        due.is("in", x.of(0, 1), 0);
        due.is("not crossed", x.of(0, 8), 0);
        due.is("no line", x.look(5), 4);
        due.is("nothing paid", x.look(3), 0);
        due.is("he comes anew", x.comes(0, 3, 9), true);
        due.is("turns", x.of(0, 5), 0);
        due.is("signs", x.of(0, 6), 0);
        x.minutes(3);
        due.is("by his way from the start", x.of(0, 2), 9);
        due.is("ways told anew", Due.tell(x, 2, "walker 0 ;"), 1);
        x.minutes(1);
        due.is("a way without words is ahead", x.of(0, 2), 8);
        due.is("ways told anew", Due.tell(x, 2, "walker 0 wait 2 left;"), 1);
        x.minutes(1);
        due.is("ways told anew", Due.tell(x, 2, "walker 0 wait 2 left;"), 1);
        x.minutes(2);
        due.is("told, the step is 0", x.of(0, 5), 0);
        x.minutes(1);
        due.is("then he turns", x.of(0, 5), 1);
    }

    private static void standingBefore() {
        WindingSquare x = new WindingSquare();
        x.walker(0);
        x.walker(0);
        x.walker(0);
        x.comes(0, 0, 4);
        x.lay(4, 1, 1);
        due.is("minutes", x.minutes(1), 0);
        due.is("stays", x.of(0, 3), 0);
        due.is("line", x.book(1, 1), 5);
        due.is("where", x.book(1, 3), 4);
        x.comes(1, 1, 1);
        x.minutes(2);
        x.lay(4, 1, 0);
        due.is("beside", x.of(1, 2), 2);
        x.minutes(2);
        due.is("the first goes first", x.of(0, 3), 2);
        due.is("the second behind him", x.of(1, 2), 4);
        WindingSquare y = new WindingSquare();
        y.walker(0);
        y.walker(0);
        Due.tell(y, 2, "walker 0 ahead 2 left;");
        y.comes(0, 1, 3);
        y.comes(1, 3, 3);
        y.minutes(5);
        due.is("turned, the stay counts as gone", y.of(0, 5), 1);
    }

    private static void leaving() {
        WindingSquare x = new WindingSquare();
        x.walker(0);
        Due.tell(x, 0, "pays 7 * x + inside when minute > 0; pays 1;");
        x.comes(0, 3, 11);
        x.turn(0, 1);
        due.is("asked before", x.of(0, 13), 1);
        due.is("over", x.minutes(1), 1);
        due.is("crossed", x.of(0, 8), 1);
        due.is("paid", x.look(3), 1);
        due.is("line what", x.book(2, 1), 3);
        due.is("line turns", x.book(2, 3), 1);
        x.comes(0, 0, 11);
        x.turn(0, 1);
        due.is("over to the right", x.minutes(2), 1);
        due.is("held to 99, inside counts him", x.look(3), 1 + 78);
        due.is("crossed", x.of(0, 8), 2);
    }

    private static void slipping() {
        WindingSquare x = new WindingSquare();
        x.walker(9);
        Due.tell(x, 0, "slips 1000 when snow = 1 and y = 1; slips 0;");
        Due.tell(x, 1, "snow 4 1 to 4 3;");
        x.comes(0, 0, 4);
        x.state(5);
        x.minutes(1);
        due.is("slipped on", x.of(0, 3), 2);
        due.is("once", x.of(0, 10), 1);
        due.is("where", x.book(1, 3), 16);
        due.is("a draw", x.look(6), 5 * 1664525 + 1013904223);
        x.minutes(1);
        due.is("no slip, no draw at 0", x.look(6), 5 * 1664525 + 1013904223);
        due.is("y", x.of(0, 3), 3);
        int state = 1;
        WindingSquare y = new WindingSquare();
        y.walker(3);
        Due.tell(y, 1, "snow 0 0 to 11 11;");
        y.comes(0, 0, 4);
        y.state(state);
        int at = 0;
        int slips = 0;
        for (int i = 0; at < 10; i++) {
            state = 1664525 * state + 1013904223;
            boolean slip = (state >>> 8) % 1000 < 360;
            at += slip ? 2 : 1;
            slips += slip ? 1 : 0;
            y.minutes(1);
            due.is("drawn", y.of(0, 3), at);
            due.is("slips", y.of(0, 10), slips);
        }
    }

    private static void slippingFurther() {
        WindingSquare x = new WindingSquare();
        x.walker(0);
        x.walker(0);
        Due.tell(x, 0, "slips 1000;");
        Due.tell(x, 1, "snow 4 1; stone 4 2;");
        x.comes(0, 0, 4);
        x.minutes(1);
        due.is("he slips and stays", x.of(0, 3), 1);
        due.is("line 2", x.book(1, 1), 2);
        due.is("line 5", x.book(2, 1), 5);
        due.is("where", x.book(2, 3), 16);
        Due.tell(x, 1, "snow 1 5; bare 4 1;");
        due.is("still in", x.of(0, 1), 1);
        x.comes(1, 0, 1);
        x.turn(1, 1);
        WindingSquare y = new WindingSquare();
        y.walker(0);
        Due.tell(y, 0, "slips 1000; sees 1000; pays y;");
        Due.tell(y, 1, "snow 4 11;");
        y.comes(0, 0, 4);
        due.is("over by slipping", y.minutes(11), 1);
        due.is("slipped", y.of(0, 10), 1);
        due.is("caught", y.of(0, 9), 1);
        due.is("paid", y.look(3), 61);
        due.is("lines", y.look(5), 4);
        due.is("line 2", y.book(1, 1), 2);
        due.is("line 3", y.book(2, 1), 3);
        due.is("line 4", y.book(3, 1), 4);
    }

    private static void caught() {
        WindingSquare x = new WindingSquare();
        x.walker(0);
        due.is("watch", Due.tell(x, 3, "from 0 watch 5; from 10 blind; from 12 watch 9;"), 3);
        x.comes(0, 0, 4);
        due.is("sees", x.of(0, 12), 1000);
        x.minutes(10);
        due.is("blind", x.of(0, 12), 0);
        x.minutes(1);
        due.is("blind yet: not over", x.of(0, 1), 1);
        due.is("over unseen", x.minutes(1), 1);
        due.is("not caught", x.of(0, 9), 0);
        due.is("paid", x.look(3), 10);
        due.is("no draw", x.look(6), 0);
        x.comes(0, 0, 4);
        due.is("sees, held to 1000", x.of(0, 12), 1000);
        due.is("over", x.minutes(12), 1);
        due.is("caught", x.of(0, 9), 1);
        due.is("paid", x.look(3), 70);
        due.is("how much", x.book(4, 3), 50);
        x.comes(0, 0, 4);
        x.turn(0, 2);
        x.turn(0, 2);
        x.minutes(12);
        due.is("with turns he is not caught", x.of(0, 9), 1);
        due.is("paid", x.look(3), 76);
        WindingSquare y = new WindingSquare();
        y.walker(0);
        Due.tell(y, 3, "from 5 watch 2; from 3 watch 1;");
        y.minutes(4);
        due.is("the last line counts", y.of(0, 12), 200);
        y.minutes(4);
        due.is("the last line counts", y.of(0, 12), 200);
    }

    private static void manyMinutes() {
        WindingSquare x = new WindingSquare();
        due.is("0", x.minutes(0), -1);
        due.is("61", x.minutes(61), -1);
        due.is("-1", x.minutes(-1), -1);
        for (int i = 0; i < 166; i++) {
            due.is("60", x.minutes(60), 0);
        }
        due.is("minute", x.look(2), 9960);
        due.is("too many", x.minutes(40), -1);
        due.is("refused: nothing done", x.look(2), 9960);
        due.is("just so many", x.minutes(39), 0);
        due.is("one more", x.minutes(1), -1);
        due.is("in thought it goes on", x.goes(60, 0), 0);
        due.is("minute", x.look(2), 9999);
    }

    private static void fullBook() {
        WindingSquare x = new WindingSquare();
        x.walker(0);
        x.comes(0, 0, 0);
        x.lay(0, 1, 1);
        x.minutes(60);
        x.minutes(60);
        x.minutes(28);
        due.is("lines", x.look(5), 149);
        x.minutes(3);
        due.is("no more", x.look(5), 150);
        due.is("the last", x.book(149, 0), 148);
        due.is("none", x.book(150, 0), -1);
        due.is("none", x.book(-1, 0), -1);
        due.is("what 4", x.book(0, 4), -1);
        due.is("what -1", x.book(0, -1), -1);
        x.undo();
        x.undo();
        due.is("full yet", x.look(5), 150);
        x.undo();
        due.is("undone", x.look(5), 149);
        due.is("undone", x.book(149, 0), -1);
    }
}
