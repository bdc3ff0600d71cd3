/** The edges of promises 1 to 6 and of the terms 1: what is new, who comes, turns, what is laid; sentence by sentence. */
public final class EdgeHandTest {
    private static final Due due = new Due();
    private static final int[] FAR_OUT = {Integer.MIN_VALUE, Integer.MIN_VALUE + 1, -100, 100, 1 << 16, 1 << 30,
        Integer.MAX_VALUE - 1, Integer.MAX_VALUE};

    public static void main(String[] args) {
        fresh();
        state();
        walkers();
        comesBounds();
        comesCells();
        comesAnew();
        turnBounds();
        turnsModulo();
        layBounds();
        layUnderWalkers();
        due.end();
    }

    private static WindingSquare walkers(int n) {
        WindingSquare x = new WindingSquare();
        for (int i = 0; i < n; i++) {
            x.walker(0);
        }
        return x;
    }

    /** One walker in at x k, y 0, facing up. */
    private static WindingSquare oneIn(int k) {
        WindingSquare x = walkers(1);
        x.comes(0, 0, k);
        return x;
    }

    private static void fresh() {
        WindingSquare x = new WindingSquare();
        due.about("Promise 1", "A bare square.");
        for (int i = 0; i < 144; i++) {
            due.is("cell", x.cell(i % 12, i / 12, 0), 0);
            due.is("who", x.cell(i % 12, i / 12, 1), -1);
        }
        due.about("Terms", "STATE of draws (an int, 0 at first)");
        due.is("look(6)", x.look(6), 0);
        due.about("Terms 1", "MINUTE 0 .. 9999 (0 at first), PAID (pennies, an int, 0 at first)");
        due.is("look(2)", x.look(2), 0);
        due.is("look(3)", x.look(3), 0);
        due.about("Terms 2", "TEXTS (empty at first)");
        for (int what = 7; what <= 10; what++) {
            due.is("look " + what, x.look(what), 0);
        }
        x = oneIn(4);
        due.is("slips without a law", x.of(0, 11), 0);
        due.is("sees without a watch", x.of(0, 12), 0);
        due.is("pays without a law", x.of(0, 13), 10);
        due.about("Terms 1", "CROSSED, CAUGHT, SLIPPED (how often, ints, 0 at first)");
        for (int what = 8; what <= 10; what++) {
            due.is("of " + what, x.of(0, what), 0);
        }
        due.about("Promise 35", "false if there is none");
        due.is("image of a new one", new WindingSquare().image(false), false);
        due.about("Promise 34", "false if there is nothing");
        due.is("undo of a new one", new WindingSquare().undo(), false);
        due.about("Promise 9", "false, changing nothing, if it has not so many");
        due.is("a new tape has none", new WindingSquare().end(1), false);
    }

    private static void state() {
        due.about("Promise 2", "STATE is told: what it was.");
        WindingSquare x = new WindingSquare();
        int was = 0;
        for (int v : new int[] {0, 1, -1, Integer.MAX_VALUE, Integer.MIN_VALUE, 0, -2}) {
            due.is("state " + v, x.state(v), was);
            due.is("look(6)", x.look(6), v);
            was = v;
        }
    }

    private static void walkers() {
        due.about("Promise 3", "NONE if one can't be");
        WindingSquare x = new WindingSquare();
        for (int haste : FAR_OUT) {
            due.is("haste " + haste, x.walker(haste), -1);
        }
        due.is("haste -1", x.walker(-1), -1);
        due.is("haste 10", x.walker(10), -1);
        due.is("none came of it", x.look(0), 0);
        due.about("Terms 1", "HASTE 0 .. 9");
        due.is("haste 0", x.walker(0), 0);
        due.is("haste 9", x.walker(9), 1);
        due.is("his haste", x.of(0, 0), 0);
        due.is("his haste", x.of(1, 0), 9);
        due.about("Promise 3", "A WALKER, not IN");
        due.is("in", x.of(0, 1), 0);
        due.is("those in", x.look(1), 0);
        due.about("Promise 3", "or there are sixteen");
        for (int i = 2; i < 16; i++) {
            due.is("walker", x.walker(5), i);
        }
        due.is("the 17th", x.walker(5), -1);
        due.is("sixteen yet", x.look(0), 16);
        due.is("the 16th comes", x.comes(15, 0, 0), true);
        due.is("those in", x.look(1), 1 << 15);
        due.is("no 17th comes", x.comes(16, 0, 1), false);
    }

    private static void comesBounds() {
        due.about("Terms 3", "To COME IN by a side s (0 .. 3) at k (0 .. 11): FACING s");
        for (int side = 0; side < 4; side++) {
            for (int k = 0; k < 12; k++) {
                WindingSquare x = walkers(1);
                due.is("comes", x.comes(0, side, k), true);
                due.is("x", x.of(0, 2), side == 1 ? 0 : side == 3 ? 11 : k);
                due.is("y", x.of(0, 3), side == 0 ? 0 : side == 2 ? 11 : k);
                due.is("facing", x.of(0, 4), side);
                due.is("side", x.of(0, 7), side);
            }
        }
        due.about("Promise 4", "or it can't be");
        WindingSquare x = walkers(2);
        for (int side = 0; side < 4; side++) {
            due.is("k -1", x.comes(0, side, -1), false);
            due.is("k 12", x.comes(0, side, 12), false);
        }
        due.is("side -1", x.comes(0, -1, 5), false);
        due.is("side 4", x.comes(0, 4, 5), false);
        due.is("walker -1", x.comes(-1, 0, 5), false);
        due.is("walker 2 of two", x.comes(2, 0, 5), false);
        for (int v : FAR_OUT) {
            due.is("walker " + v, x.comes(v, 0, 5), false);
            due.is("side " + v, x.comes(0, v, 5), false);
            due.is("k " + v, x.comes(0, 0, v), false);
        }
        due.is("nobody is in", x.look(1), 0);
        due.is("no line", x.look(5), 0);
        due.is("nothing to undo", x.look(11), 0);
        due.is("the last of two comes", x.comes(1, 0, 5), true);
        due.about("Promise 4", "false if he is IN");
        due.is("he is in", x.comes(1, 0, 6), false);
        due.is("he is in, where he stands", x.comes(1, 0, 5), false);
        due.is("he stands where he stood", x.of(1, 2), 5);
        due.is("one line", x.look(5), 1);
        due.is("one to undo", x.look(11), 1);
    }

    private static void comesCells() {
        due.about("Terms 3", "that CELL must be without a stone and a WALKER");
        for (int v = 0; v <= 3; v++) {
            WindingSquare x = walkers(2);
            x.lay(0, 0, v);
            due.is("on " + v + " from below", x.comes(0, 0, 0), v != 1);
            due.is("on " + v + " from the left, one stands there", x.comes(1, 1, 0), false);
            due.is("beside", x.comes(1, 1, 1), true);
        }
        WindingSquare x = walkers(2);
        x.comes(0, 0, 11);
        due.is("the corner from the right", x.comes(1, 3, 0), false);
        x.turn(0, 2);
        x.minutes(1);
        due.is("he is gone, the corner is free", x.comes(1, 3, 0), true);
        x.lay(5, 0, 1);
        due.is("a stone", x.comes(0, 0, 5), false);
        x.lay(5, 0, 0);
        due.is("the stone is taken", x.comes(0, 0, 5), true);
    }

    private static void comesAnew() {
        due.about("Terms 3", "TURNS, SIGNS, STEP 0");
        WindingSquare x = walkers(1);
        Due.good(x, 2, "walker 0 wait 2 left;");
        x.lay(4, 0, 3);
        x.comes(0, 0, 4);
        x.minutes(1);
        x.turn(0, 1);
        x.turn(0, 1);
        Due.good(x, 1, "stone 4 0;");
        due.is("he is out", x.of(0, 1), 0);
        due.is("he comes anew", x.comes(0, 0, 5), true);
        due.is("turns", x.of(0, 5), 0);
        due.is("signs", x.of(0, 6), 0);
        x.minutes(2);
        due.is("two minutes waited, not one", x.of(0, 5), 0);
        x.minutes(1);
        due.is("then left", x.of(0, 5), 1);
    }

    private static void turnBounds() {
        due.about("Promise 5", "false if he is not IN, or one can't be");
        WindingSquare x = walkers(2);
        due.is("not in yet", x.turn(0, 0), false);
        x.comes(0, 0, 4);
        due.is("the other is not in", x.turn(1, 0), false);
        due.is("walker -1", x.turn(-1, 0), false);
        due.is("walker 2 of two", x.turn(2, 0), false);
        due.is("how -1", x.turn(0, -1), false);
        due.is("how 3", x.turn(0, 3), false);
        for (int v : FAR_OUT) {
            due.is("walker " + v, x.turn(v, 0), false);
            due.is("how " + v, x.turn(0, v), false);
        }
        due.is("no turn", x.of(0, 5), 0);
        due.is("facing", x.of(0, 4), 0);
        due.is("one line", x.look(5), 1);
        due.is("one to undo", x.look(11), 1);
        due.is("back", x.turn(0, 2), true);
        x.minutes(1);
        due.is("not in any more", x.turn(0, 0), false);
        due.about("Promise 5", "(0 left, 1 right, 2 back)");
        x.comes(0, 0, 4);
        due.is("left", x.turn(0, 0) ? x.of(0, 4) : -1, 3);
        due.is("right", x.turn(0, 1) ? x.of(0, 4) : -1, 0);
        due.is("back", x.turn(0, 2) ? x.of(0, 4) : -1, 2);
    }

    private static void turnsModulo() {
        due.about("Terms 1", "a turn to the right: one more, to the left: one less, modulo 4");
        for (int side = 0; side < 4; side++) {
            for (int how = 0; how <= 2; how++) {
                WindingSquare x = walkers(1);
                x.comes(0, side, 4);
                x.turn(0, how);
                due.is("by hand", x.of(0, 4), new int[] {side + 3, side + 1, side + 2}[how] % 4);
                x = walkers(1);
                Due.good(x, 2, new String[] {"walker 0 left;", "walker 0 right;", "walker 0 back;"}[how]);
                x.comes(0, side, 4);
                x.minutes(1);
                due.is("by his way", x.of(0, 4), new int[] {side + 3, side + 1, side + 2}[how] % 4);
            }
        }
        due.about("Terms 3", "TURNS one more (back: two), on a sign SIGNS as much");
        for (int how = 0; how <= 2; how++) {
            for (int v = 0; v <= 3; v++) {
                if (v == 1) {
                    continue;
                }
                WindingSquare x = oneIn(4);
                x.lay(4, 0, v);
                x.turn(0, how);
                due.is("turns by hand", x.of(0, 5), how == 2 ? 2 : 1);
                due.is("signs by hand", x.of(0, 6), v != 3 ? 0 : how == 2 ? 2 : 1);
                Due.good(x, 2, new String[] {"walker 0 left;", "walker 0 right;", "walker 0 back;"}[how]);
                x.minutes(1);
                due.is("turns by his way", x.of(0, 5), how == 2 ? 4 : 2);
                due.is("signs by his way", x.of(0, 6), v != 3 ? 0 : how == 2 ? 4 : 2);
            }
        }
    }

    private static void layBounds() {
        due.about("Terms 1", "CELLS x 0 .. 11 (from the left), y 0 .. 11 (from below)");
        WindingSquare x = new WindingSquare();
        for (int i = 0; i < 4; i++) {
            due.is("a corner", x.lay(i % 2 * 11, i / 2 * 11, 3), true);
            due.is("laid", x.cell(i % 2 * 11, i / 2 * 11, 0), 3);
        }
        due.about("Promise 6", "one can't be");
        for (int v = 0; v < 12; v += 11) {
            due.is("x -1", x.lay(-1, v, 1), false);
            due.is("x 12", x.lay(12, v, 1), false);
            due.is("y -1", x.lay(v, -1, 1), false);
            due.is("y 12", x.lay(v, 12, 1), false);
        }
        for (int v : FAR_OUT) {
            due.is("x " + v, x.lay(v, 0, 1), false);
            due.is("y " + v, x.lay(0, v, 1), false);
            due.is("v " + v, x.lay(0, 0, v), false);
        }
        due.is("v -1", x.lay(5, 5, -1), false);
        due.is("v 4", x.lay(5, 5, 4), false);
        due.is("no stone came", x.look(4), 0);
        due.is("four were laid", x.look(11), 4);
        due.about("Promise 6", "false if it is so");
        due.is("bare is bare", x.lay(5, 5, 0), false);
        for (int v : new int[] {3, 2, 1, 0}) {
            due.is("lay " + v, x.lay(5, 5, v), true);
            due.is("it is so", x.lay(5, 5, v), false);
            due.is("cell", x.cell(5, 5, 0), v);
        }
        due.is("six can be undone", x.look(11), 6);
    }

    private static void layUnderWalkers() {
        due.about("Promise 6", "or a stone would lie where a WALKER stands");
        WindingSquare x = walkers(2);
        x.comes(1, 0, 4);
        due.is("a stone under him", x.lay(4, 0, 1), false);
        due.is("bare yet", x.cell(4, 0, 0), 0);
        due.is("only his coming can be undone", x.look(11), 1);
        due.is("a sign under him", x.lay(4, 0, 3), true);
        due.is("snow under him", x.lay(4, 0, 2), true);
        due.is("bare under him", x.lay(4, 0, 0), true);
        due.is("a stone beside him", x.lay(3, 0, 1), true);
        x.minutes(1);
        due.is("a stone where he stood", x.lay(4, 0, 1), true);
        due.is("a stone where he stands", x.lay(4, 1, 1), false);
    }
}
