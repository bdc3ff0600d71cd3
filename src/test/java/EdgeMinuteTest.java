/** The edges of promise 7 and of the terms 3: minutes, words of a way, draws, who is over, the book; sentence by sentence. */
public final class EdgeMinuteTest {
    private static final Due due = new Due();
    private static final int[] FAR_OUT = {Integer.MIN_VALUE, Integer.MIN_VALUE + 1, -100, 100, 1 << 16, 1 << 30,
        Integer.MAX_VALUE - 1, Integer.MAX_VALUE};
    private static final String LEAST = "a DRAW of 1000: below it";

    public static void main(String[] args) {
        minutesBounds();
        lastMinute();
        crossedInThem();
        slipDraws();
        seesDraws();
        nothingDrawn();
        words();
        lastWord();
        stays();
        oneByOne();
        outWhereHeCame();
        outElsewhere();
        askedAsHeStands();
        onlyStraight();
        slipOnce();
        slipsOut();
        bookLines();
        bookFull();
        bookFullByAll();
        due.end();
    }

    private static WindingSquare walkers(int n) {
        WindingSquare x = new WindingSquare();
        for (int i = 0; i < n; i++) {
            x.walker(0);
        }
        return x;
    }

    /** One walker in at x k, y 0, facing up. */
    private static WindingSquare oneIn(int k) {
        WindingSquare x = walkers(1);
        x.comes(0, 0, k);
        return x;
    }

    private static int next(int state) {
        return (int) (1664525L * state + 1013904223L);
    }

    private static int draw(int state) {
        return (int) ((next(state) & 0xffffffffL) / 256 % 1000);
    }

    private static void minutesBounds() {
        due.about("Promise 7", "MINUTES go by (1 .. 60)");
        WindingSquare x = oneIn(4);
        x.lay(4, 5, 1);
        due.is("1", x.minutes(1), 0);
        due.is("minute", x.look(2), 1);
        due.is("60", x.minutes(60), 0);
        due.is("minute", x.look(2), 61);
        due.about("Promise 7", "NONE, and nothing is done, if one can't be");
        String before = Snap.of(x);
        due.is("0", x.minutes(0), -1);
        due.is("-1", x.minutes(-1), -1);
        due.is("61", x.minutes(61), -1);
        for (int v : FAR_OUT) {
            due.is("minutes " + v, x.minutes(v), -1);
        }
        due.same("nothing is done", Snap.of(x), before);
    }

    private static void lastMinute() {
        due.about("Promise 7", "or MINUTE would be above 9999");
        WindingSquare x = Due.atMinute(walkers(1), 9939);
        x.comes(0, 0, 4);
        x.lay(4, 1, 1);
        due.is("just to 9999", x.minutes(60), 0);
        due.is("minute", x.look(2), 9999);
        x = Due.atMinute(walkers(1), 9940);
        x.comes(0, 0, 4);
        String before = Snap.of(x);
        due.is("60 from 9940", x.minutes(60), -1);
        due.same("nothing is done", Snap.of(x), before);
        due.is("58", x.minutes(58), 1);
        due.is("two from 9998", x.minutes(2), -1);
        due.is("minute", x.look(2), 9998);
        due.is("one from 9998", x.minutes(1), 0);
        due.is("one from 9999", x.minutes(1), -1);
        due.is("60 from 9999", x.minutes(60), -1);
        due.is("minute", x.look(2), 9999);
        due.is("by hand all goes on", x.comes(0, 1, 4), true);
        due.is("the line's minute", x.book(x.look(5) - 1, 0), 9999);
        due.is("undone", x.undo() && x.undo() ? x.look(2) : -1, 9998);
        due.is("and once more", x.minutes(1), 0);
    }

    private static void crossedInThem() {
        due.about("Promise 7", "how many CROSSED in them");
        WindingSquare x = walkers(4);
        x.comes(0, 0, 4);
        x.comes(1, 0, 5);
        x.comes(2, 1, 7);
        x.turn(2, 2);
        due.is("none in eleven; one goes back out", x.minutes(11), 0);
        due.is("two in the twelfth", x.minutes(1), 2);
        due.is("none behind it", x.minutes(1), 0);
        x.comes(0, 0, 4);
        x.minutes(5);
        x.comes(1, 0, 4);
        due.is("one, and not those before", x.minutes(11), 1);
        due.is("one more", x.minutes(60), 1);
        due.is("crossed of the first", x.of(0, 8), 2);
        due.is("he who went back out", x.of(2, 8), 0);
        for (int i = 0; i < 4; i++) {
            due.is("all come", x.comes(i, i, 6), true);
            due.is("at right angles", x.turn(i, 0), true);
        }
        due.is("all four", x.minutes(60), 4);
    }

    private static WindingSquare onSnow(int state, int slips) {
        WindingSquare x = walkers(1);
        Due.good(x, 0, "slips " + slips + ";");
        Due.good(x, 1, "snow 4 1;");
        x.comes(0, 0, 4);
        x.state(state);
        x.minutes(1);
        return x;
    }

    private static int stateThatDraws(int want) {
        int s = -123456;
        while (draw(s) != want) {
            s += 7;
        }
        return s;
    }

    private static int[] states() {
        return new int[] {0, 1, -1, Integer.MIN_VALUE, Integer.MAX_VALUE, 305419896, -987654321, stateThatDraws(0),
            stateThatDraws(1), stateThatDraws(998), stateThatDraws(999), stateThatDraws(500)};
    }

    private static void slipDraws() {
        due.about("Terms", "it becomes 1664525 times itself + 1013904223 (ints, which wrap), then it is its highest 24 bits"
            + " (without sign) modulo m");
        due.is("the draw of 0", draw(0), 1013904223 / 256 % 1000);
        for (int s : states()) {
            due.is("state behind one draw of " + s, onSnow(s, 500).look(6), next(s));
        }
        due.about("Terms 3", LEAST + " SLIPPED one more, and he goes on once more at once");
        for (int s : states()) {
            WindingSquare x = onSnow(s, draw(s) + 1);
            due.is("one above the draw of " + s, x.of(0, 10), 1);
            due.is("y", x.of(0, 3), 2);
            if (draw(s) > 0) {
                x = onSnow(s, draw(s));
                due.is("just the draw of " + s, x.of(0, 10), 0);
                due.is("y", x.of(0, 3), 1);
                due.is("but it was drawn", x.look(6), next(s));
            }
        }
    }

    private static WindingSquare seenOver(int state, int sees) {
        WindingSquare x = walkers(1);
        Due.good(x, 0, "sees " + sees + "; pays 3;");
        x.comes(0, 0, 4);
        x.state(state);
        x.minutes(12);
        return x;
    }

    private static void seesDraws() {
        due.about("Terms 3", LEAST + " CAUGHT one more, PAID 50 more");
        for (int s : states()) {
            WindingSquare x = seenOver(s, draw(s) + 1);
            due.is("one above the draw of " + s, x.of(0, 9), 1);
            due.is("paid", x.look(3), 53);
            due.is("crossed", x.of(0, 8), 1);
            due.is("state", x.look(6), next(s));
            if (draw(s) > 0) {
                x = seenOver(s, draw(s));
                due.is("just the draw of " + s, x.of(0, 9), 0);
                due.is("paid", x.look(3), 3);
                due.is("but it was drawn", x.look(6), next(s));
            }
        }
    }

    private static void nothingDrawn() {
        due.about("Terms 3", "slips is asked, is it above 0");
        int zero = stateThatDraws(0);
        due.is("slips 0 draws nothing", onSnow(zero, 0).look(6), zero);
        due.is("slips 0", onSnow(zero, 0).of(0, 10), 0);
        due.is("slips 1 draws", onSnow(zero, 1).look(6), next(zero));
        due.about("Terms 3", "sees is asked, is it above 0");
        due.is("sees 0 draws nothing", seenOver(zero, 0).look(6), zero);
        due.is("sees 0", seenOver(zero, 0).of(0, 9), 0);
        due.is("sees 1 draws", seenOver(zero, 1).look(6), next(zero));
        due.about("Terms 3", "Has he gone on to a CELL and it is snow");
        for (int v = 0; v <= 3; v++) {
            WindingSquare x = walkers(1);
            Due.good(x, 0, "slips 1000;");
            x.lay(4, 0, 2);
            x.lay(4, 1, v);
            x.comes(0, 0, 4);
            due.is("to come in on snow draws nothing", x.look(6), 0);
            x.minutes(1);
            due.is("gone on to " + v, x.of(0, 10), v == 2 ? 1 : 0);
            due.is("drawn at " + v, x.look(6) != 0, v == 2);
        }
        WindingSquare x = walkers(1);
        Due.good(x, 0, "slips 1000;");
        Due.good(x, 2, "walker 0 ahead 1 wait 1 left;");
        x.lay(4, 1, 2);
        x.lay(4, 2, 1);
        x.comes(0, 0, 4);
        x.minutes(1);
        int state = x.look(6);
        x.minutes(2);
        due.is("to wait and to turn on snow draws nothing", x.look(6), state);
    }

    private static void words() {
        due.about("Terms 3", "ahead N: he goes N times one on in N minutes");
        for (int n : new int[] {1, 2, 10, 11}) {
            WindingSquare x = walkers(1);
            Due.good(x, 2, "walker 0 ahead " + n + " left;");
            x.comes(0, 0, 4);
            x.minutes(n);
            due.is("gone on", x.of(0, 3), n);
            due.is("not turned yet", x.of(0, 5), 0);
            x.minutes(1);
            due.is("then turned", x.of(0, 5), 1);
            due.is("on the spot", x.of(0, 3), n);
        }
        due.about("Terms 3", "wait N: nothing for N minutes");
        for (int n : new int[] {1, 2, 10, 11}) {
            WindingSquare x = walkers(1);
            Due.good(x, 2, "walker 0 wait " + n + ";");
            x.comes(0, 0, 4);
            x.minutes(n);
            due.is("nothing", x.of(0, 3), 0);
            due.is("no line", x.look(5), 1);
            x.minutes(1);
            due.is("then one on", x.of(0, 3), 1);
        }
        due.about("Terms 3", "left, right, back: FACING turned once to the left, to the right, twice to the right");
        WindingSquare x = walkers(1);
        Due.good(x, 2, "walker 0 left right back ahead 1;");
        x.comes(0, 1, 4);
        int[] facing = {0, 1, 3};
        for (int f : facing) {
            x.minutes(1);
            due.is("facing", x.of(0, 4), f);
            due.is("on the spot", x.of(0, 2), 0);
        }
    }

    private static void lastWord() {
        due.about("Terms 3", "(behind the last, or without a WAY: ahead 1)");
        WindingSquare x = walkers(3);
        Due.good(x, 2, "walker 1 wait 1; walker 2;");
        for (int i = 0; i < 3; i++) {
            x.comes(i, 0, 2 * i);
        }
        x.minutes(1);
        due.is("without a way", x.of(0, 3), 1);
        due.is("he waits", x.of(1, 3), 0);
        due.is("a way without words", x.of(2, 3), 1);
        x.minutes(10);
        due.is("without a way", x.of(0, 3), 11);
        due.is("behind the last, again and again", x.of(1, 3), 10);
        due.is("a way without words", x.of(2, 3), 11);
        due.is("two are over", x.minutes(1), 2);
        due.is("then he", x.minutes(1), 1);
    }

    private static void stays() {
        due.about("Terms 3", "into a CELL with a stone or a WALKER: he stays (it counts as gone)");
        WindingSquare x = walkers(1);
        Due.good(x, 2, "walker 0 ahead 2 right;");
        x.lay(4, 1, 1);
        x.comes(0, 0, 4);
        x.minutes(2);
        due.is("before a stone", x.of(0, 3), 0);
        due.is("two lines", x.look(5), 3);
        x.minutes(1);
        due.is("it counted: he turns", x.of(0, 5), 1);
        x = walkers(2);
        Due.good(x, 2, "walker 0 wait 11; walker 1 ahead 3 left;");
        x.comes(0, 1, 1);
        x.comes(1, 0, 0);
        x.minutes(3);
        due.is("before a walker", x.of(1, 3), 0);
        due.is("line", x.book(2, 1), 5);
        due.is("who", x.book(2, 2), 1);
        x.minutes(1);
        due.is("it counted: he turns", x.of(1, 5), 1);
        x = walkers(2);
        x.comes(0, 1, 1);
        x.comes(1, 0, 0);
        x.turn(0, 2);
        x.minutes(1);
        due.is("one who is not in any more is not in the way", x.of(1, 3), 1);
    }

    private static void oneByOne() {
        due.about("Terms 3", "WALKER by WALKER who is IN");
        WindingSquare x = walkers(2);
        x.comes(0, 0, 4);
        x.minutes(1);
        x.comes(1, 0, 4);
        x.minutes(1);
        due.is("the first goes, the second into his cell", x.of(1, 3), 1);
        x = walkers(2);
        x.comes(1, 0, 4);
        x.minutes(1);
        x.comes(0, 0, 4);
        x.minutes(1);
        due.is("the second stands there yet", x.of(0, 3), 0);
        due.is("then he goes", x.of(1, 3), 2);
        due.is("the line is of the first", x.book(2, 2), 0);
        x = walkers(3);
        x.comes(2, 0, 4);
        x.comes(0, 0, 6);
        x.minutes(1);
        due.is("who is not in does nothing", x.of(1, 1), 0);
        due.is("no line of him", x.look(5), 2);
        due.about("Terms 3", "Behind all MINUTE is one more");
        x = walkers(2);
        Due.good(x, 0, "pays minute + 1;");
        x.comes(0, 1, 11);
        x.comes(1, 3, 11);
        x.turn(0, 0);
        x.turn(1, 1);
        due.is("both in one minute", x.minutes(1), 2);
        due.is("paid in minute 0", x.look(3), 2);
        due.is("line of the first", x.book(4, 0), 0);
        due.is("line of the second", x.book(5, 0), 0);
    }

    private static void outWhereHeCame() {
        due.about("Terms 3", "by the side where he came from he is not IN any more, nothing else, no line");
        for (int side = 0; side < 4; side++) {
            for (int k = 0; k < 12; k += 11) {
                WindingSquare x = walkers(1);
                Due.good(x, 0, "sees 1000; pays 9;");
                x.comes(0, side, k);
                x.turn(0, 2);
                due.is("none crossed", x.minutes(1), 0);
                due.is("in", x.of(0, 1), 0);
                due.is("crossed", x.of(0, 8), 0);
                due.is("paid", x.look(3), 0);
                due.is("lines: in and turned", x.look(5), 2);
                due.is("state", x.look(6), 0);
            }
        }
    }

    private static void outElsewhere() {
        due.about("Terms 3", "by another one, all asked as he stands yet, then not IN: CROSSED one more, pays is asked,"
            + " PAID so much more");
        for (int side = 0; side < 4; side++) {
            for (int how = -1; how <= 1; how++) {
                WindingSquare x = walkers(1);
                Due.good(x, 0, "pays 9;");
                boolean nearFirst = side == 0 || side == 3;
                int k = how == -1 ? 5 : nearFirst == (how == 0) ? 0 : 11;
                x.comes(0, side, k);
                if (how >= 0) {
                    x.turn(0, how);
                }
                due.is("over, side " + side + " how " + how, x.minutes(how == -1 ? 12 : 1), 1);
                due.is("in", x.of(0, 1), 0);
                due.is("crossed", x.of(0, 8), 1);
                due.is("paid", x.look(3), 9);
                int last = x.look(5) - 1;
                due.is("line", x.book(last, 1), 3);
                due.is("its turns", x.book(last, 3), how == -1 ? 0 : 1);
            }
        }
    }

    private static final String[] FACTS = {"haste", "turns", "signs", "x", "y", "facing", "snow", "inside", "watch", "minute"};

    private static void askedAsHeStands() {
        due.about("Terms 3", "all asked as he stands yet");
        int[] stood = {7, 3, 2, 11, 9, 1, 1, 2, 4, 8};
        for (int i = 0; i < FACTS.length; i++) {
            due.is("paid by " + FACTS[i], overWithTurns("pays " + FACTS[i] + ";").look(3), stood[i]);
        }
        due.about("Terms 3", "has he 0 TURNS: sees is asked");
        int[] straight = {7, 0, 0, 4, 11, 0, 1, 2, 4, 17};
        for (int i = 0; i < FACTS.length; i++) {
            String law = "slips 0; sees 1000 when " + FACTS[i] + " = ";
            due.is("caught by " + FACTS[i], overStraight(law + straight[i] + "; sees 0;").of(0, 9), 1);
            due.is("not by another " + FACTS[i], overStraight(law + (straight[i] + 1) + "; sees 0;").of(0, 9), 0);
        }
    }

    /** Two are in, the watch is 4; minute 6. */
    private static WindingSquare watched(String law) {
        WindingSquare x = new WindingSquare();
        x.walker(7);
        x.walker(1);
        Due.good(x, 0, law);
        Due.good(x, 2, "walker 1 wait 11 wait 11;");
        Due.good(x, 3, "from 6 watch 4;");
        x.comes(1, 1, 0);
        x.minutes(6);
        return x;
    }

    /** He leaves in minute 8 from x 11, y 9 to the right, from snow, turned thrice, twice of it on a sign. */
    private static WindingSquare overWithTurns(String law) {
        WindingSquare x = watched(law);
        x.comes(0, 2, 11);
        x.minutes(2);
        x.lay(11, 9, 3);
        x.turn(0, 2);
        x.lay(11, 9, 2);
        x.turn(0, 1);
        due.is("over", x.minutes(1), 1);
        return x;
    }

    /** He leaves in minute 17 from x 4, y 11 upwards, from snow, never turned. */
    private static WindingSquare overStraight(String law) {
        WindingSquare x = watched(law);
        x.lay(4, 11, 2);
        x.comes(0, 0, 4);
        due.is("over", x.minutes(12), 1);
        return x;
    }

    private static void onlyStraight() {
        due.about("Terms 3", "has he 0 TURNS");
        for (int turns = 0; turns <= 4; turns += 4) {
            WindingSquare x = oneIn(4);
            Due.good(x, 0, "sees 1000; pays 3;");
            for (int i = 0; i < turns; i++) {
                x.turn(0, 0);
            }
            due.is("over", x.minutes(12), 1);
            due.is("caught", x.of(0, 9), turns == 0 ? 1 : 0);
            due.is("paid", x.look(3), turns == 0 ? 53 : 3);
            due.is("drawn", x.look(6) != 0, turns == 0);
        }
        WindingSquare x = walkers(1);
        Due.good(x, 0, "sees 1000;");
        x.comes(0, 0, 11);
        x.turn(0, 1);
        x.minutes(1);
        due.is("one turn is enough", x.of(0, 9), 0);
    }

    private static void slipOnce() {
        due.about("Terms 3", "he goes on once more at once (no more slips by that)");
        WindingSquare x = walkers(1);
        Due.good(x, 0, "slips 1000;");
        Due.good(x, 1, "snow 4 1 to 4 11;");
        x.comes(0, 0, 4);
        x.minutes(1);
        due.is("two on, not more", x.of(0, 3), 2);
        due.is("one slip", x.of(0, 10), 1);
        due.is("one draw", x.look(6), next(0));
        x.minutes(4);
        due.is("two on in each", x.of(0, 3), 10);
        due.is("five slips", x.of(0, 10), 5);
        x = walkers(1);
        Due.good(x, 0, "slips 1000;");
        Due.good(x, 1, "snow 4 1;");
        Due.good(x, 2, "walker 0 ahead 2 left;");
        x.comes(0, 0, 4);
        x.minutes(2);
        due.is("the slip is no minute of its own", x.of(0, 3), 3);
        x.minutes(1);
        due.is("then he turns", x.of(0, 5), 1);
    }

    private static void slipsOut() {
        due.about("Terms 3", "and he goes on once more at once");
        WindingSquare x = walkers(2);
        Due.good(x, 0, "slips 1000; pays 5;");
        Due.good(x, 1, "snow 4 11; snow 6 0; snow 8 1;");
        Due.good(x, 2, "walker 1 wait 11 wait 11;");
        x.comes(0, 0, 4);
        due.is("out by another side", x.minutes(11), 1);
        due.is("crossed", x.of(0, 8), 1);
        due.is("paid", x.look(3), 5);
        x.comes(0, 0, 6);
        x.minutes(1);
        x.turn(0, 2);
        int lines = x.look(5);
        due.is("out where he came from", x.minutes(1), 0);
        due.is("in", x.of(0, 1), 0);
        due.is("crossed", x.of(0, 8), 1);
        due.is("slipped", x.of(0, 10), 2);
        due.is("only the slip has a line", x.look(5), lines + 1);
        x.comes(1, 1, 2);
        Due.good(x, 2, "walker 1 ahead 8 wait 11;");
        x.minutes(8);
        x.comes(0, 0, 8);
        x.minutes(1);
        due.is("a walker stands behind the snow", x.of(0, 3), 1);
        due.is("slipped", x.of(0, 10), 3);
        due.is("and stayed", x.book(x.look(5) - 1, 1), 5);
        due.is("where", x.book(x.look(5) - 1, 3), 12 + 8);
    }

    private static void line(WindingSquare x, int i, int minute, int what, int who, int much) {
        due.is("minute of line " + i, x.book(i, 0), minute);
        due.is("what of line " + i, x.book(i, 1), what);
        due.is("who of line " + i, x.book(i, 2), who);
        due.is("how much of line " + i, x.book(i, 3), much);
    }

    private static void bookLines() {
        due.about("Terms 3", "MINUTE, what (0 came in, 1 turned, by a word of a WAY or by hand, 2 slipped, 3 over, 4 caught,"
            + " 5 stayed), who, how much");
        WindingSquare x = walkers(2);
        Due.good(x, 0, "slips 1000; sees 1000;");
        Due.good(x, 1, "snow 4 1; stone 7 1;");
        Due.good(x, 2, "walker 0 ahead 1 back;");
        x.minutes(3);
        x.comes(1, 0, 7);
        x.comes(0, 0, 4);
        x.turn(1, 0);
        x.turn(1, 1);
        x.minutes(2);
        line(x, 0, 3, 0, 1, 7);
        line(x, 1, 3, 0, 0, 4);
        line(x, 2, 3, 1, 1, 7);
        line(x, 3, 3, 1, 1, 7);
        line(x, 4, 3, 2, 0, 16);
        line(x, 5, 3, 5, 1, 7);
        line(x, 6, 4, 1, 0, 28);
        line(x, 7, 4, 5, 1, 7);
        due.is("lines", x.look(5), 8);
        due.about("Terms 3", "2 ahead of going on by it; 3: TURNS; 4: 50");
        x = walkers(2);
        Due.good(x, 0, "slips 1000; sees 1000;");
        Due.good(x, 1, "snow 4 11;");
        x.comes(1, 0, 4);
        x.minutes(11);
        line(x, 1, 10, 2, 1, 136);
        line(x, 2, 10, 3, 1, 0);
        line(x, 3, 10, 4, 1, 50);
        x.comes(0, 1, 11);
        x.turn(0, 2);
        x.turn(0, 2);
        x.turn(0, 0);
        x.minutes(1);
        line(x, 8, 11, 3, 0, 5);
        due.is("lines", x.look(5), 9);
    }

    /** He stands before a stone: each minute is a line. */
    private static WindingSquare withLines(int n) {
        WindingSquare x = oneIn(4);
        x.lay(4, 1, 1);
        for (int lines = 1; lines < n; lines += 60) {
            x.minutes(Math.min(60, n - lines));
        }
        return x;
    }

    private static void bookFull() {
        due.about("Terms 3", "THE BOOK (150 lines; no more then)");
        WindingSquare x = withLines(149);
        due.is("the 150th is not yet", x.book(149, 0), -1);
        x.turn(0, 0);
        due.is("the 150th", x.look(5), 150);
        line(x, 149, 148, 1, 0, 4);
        x.turn(0, 1);
        due.is("no 151st", x.look(5), 150);
        due.is("none such", x.book(150, 1), -1);
        line(x, 149, 148, 1, 0, 4);
        due.is("but he turned", x.of(0, 5), 2);
        x.minutes(10);
        due.is("lines", x.look(5), 150);
        line(x, 0, 0, 0, 0, 4);
        line(x, 148, 147, 5, 0, 4);
        line(x, 149, 148, 1, 0, 4);
    }

    private static void bookFullByAll() {
        due.about("Terms 3", "no more then");
        WindingSquare x = withLines(149);
        Due.good(x, 0, "slips 1000; sees 1000; pays 7;");
        Due.good(x, 1, "snow 4 11;");
        due.is("over in eleven, slipped at the end", x.minutes(11), 1);
        due.is("the slip is the last line", x.look(5), 150);
        line(x, 149, 158, 2, 0, 136);
        due.is("yet over", x.of(0, 8), 1);
        due.is("yet caught", x.of(0, 9), 1);
        due.is("yet paid", x.look(3), 57);
        due.is("yet he comes", x.comes(0, 0, 4), true);
        due.is("in", x.of(0, 1), 1);
        due.is("lines", x.look(5), 150);
        due.is("undone", x.undo(), true);
        due.is("lines", x.look(5), 150);
        due.is("the minute undone", x.undo(), true);
        due.is("the slip's line is gone", x.look(5), 149);
        due.is("none such", x.book(149, 1), -1);
    }
}
