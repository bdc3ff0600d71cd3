/** The edges of promises 12 to 16, 31 and 36: what is asked of walkers, cells, the book, minutes in thought. */
public final class EdgeAskTest {
    private static final Due due = new Due();
    private static final int[] FAR_OUT = {Integer.MIN_VALUE, Integer.MIN_VALUE + 1, -1000, -2, 1000, 1 << 20,
        Integer.MAX_VALUE - 1, Integer.MAX_VALUE};

    public static void main(String[] args) {
        of();
        ofNotIn();
        ofWrong();
        cells();
        cellsWrong();
        book();
        goesBounds();
        goesJust();
        goesAfterAll();
        goesWhats();
        nothingStays();
        above9999();
        fallsAt500();
        slipsInThought();
        overBounds();
        overByOthers();
        meetsBounds();
        meetsRules();
        lookWhats();
        lookWrong();
        due.end();
    }

    private static WindingSquare walkers(int n) {
        WindingSquare x = new WindingSquare();
        for (int i = 0; i < n; i++) {
            x.walker(i % 10);
        }
        return x;
    }

    /** Walker 2 has crossed, was caught, slipped once; then he comes by the left side, turns, and stands at 0, 7. */
    private static WindingSquare busy() {
        WindingSquare x = walkers(3);
        Due.good(x, 0, "slips 1000; sees 1000 when turns = 0; sees 17; pays 21;");
        Due.good(x, 1, "snow 4 3; sign 0 7;");
        x.comes(2, 0, 4);
        x.minutes(11);
        x.comes(2, 1, 7);
        x.turn(2, 2);
        x.lay(0, 7, 0);
        x.turn(2, 0);
        return x;
    }

    private static void of() {
        due.about("Promise 12", "Of a WALKER what 0 HASTE, 1 IN (1, 0), 2 x, 3 y, 4 FACING, 5 TURNS, 6 SIGNS, 7 SIDE"
            + " (2 .. 7: not IN: NONE), 8 CROSSED, 9 CAUGHT, 10 SLIPPED, 11 slips, 12 sees, 13 pays.");
        WindingSquare x = busy();
        int[] want = {2, 1, 0, 7, 2, 3, 2, 1, 1, 1, 1, 1000, 17, 21};
        for (int what = 0; what <= 13; what++) {
            due.is("of " + what, x.of(2, what), want[what]);
        }
    }

    private static void ofNotIn() {
        due.about("Promise 12", "(2 .. 7: not IN: NONE)");
        WindingSquare x = busy();
        int[] never = {0, 0, -1, -1, -1, -1, -1, -1, 0, 0, 0, 1000, 1000, 21};
        for (int what = 0; what <= 13; what++) {
            due.is("never in, of " + what, x.of(0, what), never[what]);
        }
        Due.good(x, 1, "stone 0 7;");
        int[] gone = {2, 0, -1, -1, -1, -1, -1, -1, 1, 1, 1, 1000, 1000, 21};
        for (int what = 0; what <= 13; what++) {
            due.is("in no more, of " + what, x.of(2, what), gone[what]);
        }
    }

    private static void ofWrong() {
        due.about("Promise 12", "NONE - 1 if there is none such, or another what.");
        WindingSquare x = busy();
        for (int what = -1; what <= 14; what++) {
            due.is("of -1", x.of(-1, what), -2);
            due.is("of 3 of three", x.of(3, what), -2);
            due.is("of 16", x.of(16, what), -2);
            due.is("of 0 of none", new WindingSquare().of(0, what), -2);
        }
        for (int v : FAR_OUT) {
            due.is("walker " + v, x.of(v, 0), -2);
            due.is("what " + v, x.of(2, v), -2);
            due.is("what " + v + ", not in", x.of(0, v), -2);
        }
        due.is("what -1", x.of(2, -1), -2);
        due.is("what 14", x.of(2, 14), -2);
        due.is("the first", x.of(0, 0), 0);
        due.is("the last", x.of(2, 0), 2);
    }

    private static void cells() {
        due.about("Promise 13", "Of a CELL what 0 what it is, 1 who stands there (NONE).");
        WindingSquare x = walkers(16);
        Due.good(x, 1, "stone 5 5; snow 11 0; sign 0 11;");
        x.comes(0, 1, 0);
        x.comes(15, 0, 11);
        due.is("bare", x.cell(0, 0, 0), 0);
        due.is("walker 0", x.cell(0, 0, 1), 0);
        due.is("snow", x.cell(11, 0, 0), 2);
        due.is("walker 15", x.cell(11, 0, 1), 15);
        due.is("a sign", x.cell(0, 11, 0), 3);
        due.is("nobody", x.cell(0, 11, 1), -1);
        due.is("a stone", x.cell(5, 5, 0), 1);
        due.is("nobody", x.cell(5, 5, 1), -1);
        due.is("the last corner", x.cell(11, 11, 0), 0);
        due.is("nobody", x.cell(11, 11, 1), -1);
        x.turn(15, 2);
        x.minutes(1);
        due.is("he is gone", x.cell(11, 0, 1), -1);
        due.is("gone on", x.cell(1, 0, 1), 0);
    }

    private static void cellsWrong() {
        due.about("Promise 13", "NONE - 1 if there is none such, or another what.");
        WindingSquare x = walkers(1);
        for (int what = -1; what <= 2; what++) {
            due.is("x -1", x.cell(-1, 0, what), -2);
            due.is("x 12", x.cell(12, 0, what), -2);
            due.is("y -1", x.cell(0, -1, what), -2);
            due.is("y 12", x.cell(0, 12, what), -2);
        }
        due.is("what -1", x.cell(0, 0, -1), -2);
        due.is("what 2", x.cell(0, 0, 2), -2);
        for (int v : FAR_OUT) {
            due.is("x " + v, x.cell(v, 0, 0), -2);
            due.is("y " + v, x.cell(0, v, 0), -2);
            due.is("what " + v, x.cell(0, 0, v), -2);
        }
    }

    private static void book() {
        due.about("Promise 14", "NONE if there is none such, or another what.");
        WindingSquare x = walkers(2);
        due.is("no line yet", x.book(0, 0), -1);
        x.minutes(3);
        x.comes(1, 0, 4);
        x.turn(1, 0);
        due.is("line -1", x.book(-1, 0), -1);
        due.is("line 2 of two", x.book(2, 0), -1);
        due.is("line 150", x.book(150, 0), -1);
        for (int i = 0; i < 2; i++) {
            due.is("what -1", x.book(i, -1), -1);
            due.is("what 4", x.book(i, 4), -1);
            for (int v : FAR_OUT) {
                due.is("line " + v, x.book(v, i), -1);
                due.is("what " + v, x.book(i, v), -1);
            }
        }
        due.about("Promise 14", "Of line i of THE BOOK what 0 MINUTE, 1 what, 2 who, 3 how much.");
        int[][] want = {{3, 0, 1, 4}, {3, 1, 1, 4}};
        for (int i = 0; i < 2; i++) {
            for (int what = 0; what <= 3; what++) {
                due.is("line " + i + " what " + what, x.book(i, what), want[i][what]);
            }
        }
        x.undo();
        due.is("an undone line", x.book(1, 0), -1);
        due.is("the line before it", x.book(0, 2), 1);
    }

    private static void goesBounds() {
        due.about("Promise 15", "NONE if one can't be, or another what.");
        WindingSquare x = walkers(1);
        x.comes(0, 0, 4);
        for (int what = 0; what <= 3; what++) {
            due.is("n 0", x.goes(0, what), -1);
            due.is("n -1", x.goes(-1, what), -1);
            due.is("n 61", x.goes(61, what), -1);
            due.is("n 1", x.goes(1, what), what == 0 ? 1 : 0);
            due.is("n 60", x.goes(60, what), new int[] {0, 1, 0, 10}[what]);
        }
        due.is("what -1", x.goes(1, -1), -1);
        due.is("what 4", x.goes(1, 4), -1);
        for (int v : FAR_OUT) {
            due.is("n " + v, x.goes(v, 0), -1);
            due.is("what " + v, x.goes(1, v), -1);
        }
        for (int what = 0; what <= 3; what++) {
            due.is("nobody there", new WindingSquare().goes(60, what), 0);
        }
    }

    /** Over in the minute n of those that come. */
    private static WindingSquare overIn(int n) {
        WindingSquare x = walkers(1);
        StringBuilder way = new StringBuilder("walker 0");
        for (int waits = n - 12; waits > 0; waits -= 11) {
            way.append(" wait ").append(Math.min(11, waits));
        }
        Due.good(x, 2, way.append(";").toString());
        x.comes(0, 0, 4);
        return x;
    }

    private static void goesJust() {
        due.about("Terms 4", "GOES for n (1 .. 60) MINUTES");
        for (int n : new int[] {12, 13, 35, 59, 60}) {
            WindingSquare x = overIn(n);
            due.is("in at " + (n - 1), x.goes(n - 1, 0), 1);
            due.is("not in at " + n, x.goes(n, 0), 0);
            due.is("crossed at " + (n - 1), x.goes(n - 1, 1), 0);
            due.is("crossed at " + n, x.goes(n, 1), 1);
            due.is("paid at " + (n - 1), x.goes(n - 1, 3), 0);
            due.is("paid at " + n, x.goes(n, 3), 10);
        }
        due.is("not in sixty", overIn(61).goes(60, 1), 0);
        WindingSquare x = overIn(13);
        x.minutes(12);
        due.is("in the first", x.goes(1, 1), 1);
    }

    private static void goesAfterAll() {
        due.about("Terms 4", "how many are IN, CROSSED of all, CAUGHT of all, PAID then");
        WindingSquare x = walkers(3);
        Due.good(x, 0, "sees 1000; pays 3;");
        for (int i = 0; i < 3; i++) {
            x.comes(i, 0, i);
        }
        x.minutes(12);
        int[] before = {0, 3, 3, 159};
        for (int what = 0; what <= 3; what++) {
            due.is("those before count: " + what, x.goes(1, what), before[what]);
        }
        for (int i = 0; i < 2; i++) {
            x.comes(i, 1, 6 + i);
        }
        int[] then = {0, 5, 5, 265};
        int[] notYet = {2, 3, 3, 159};
        for (int what = 0; what <= 3; what++) {
            due.is("behind 11: " + what, x.goes(11, what), notYet[what]);
            due.is("behind 12: " + what, x.goes(12, what), then[what]);
        }
    }

    private static void goesWhats() {
        due.about("Promise 15", "GOES what 0 IN, 1 CROSSED, 2 CAUGHT, 3 PAID.");
        WindingSquare x = walkers(16);
        Due.good(x, 0, "sees 1000 when x < 3; sees 0; pays x;");
        for (int i = 0; i < 16; i++) {
            x.comes(i, i < 12 ? 0 : 2, i % 12);
        }
        for (int i = 12; i < 16; i++) {
            x.turn(i, 2);
        }
        due.is("in behind none but four gone back", x.goes(1, 0), 12);
        due.is("crossed", x.goes(60, 1), 12);
        due.is("caught", x.goes(60, 2), 3);
        due.is("paid", x.goes(60, 3), 66 + 150);
        due.is("in", x.goes(60, 0), 0);
    }

    private static void nothingStays() {
        due.about("Terms 4", "IN THOUGHT (nothing of it stays");
        WindingSquare x = busy();
        x.comes(1, 0, 4);
        x.comes(0, 3, 3);
        x.feed(1, 2, 3, 4, 5);
        WindingSquare twin = busy();
        twin.comes(1, 0, 4);
        twin.comes(0, 3, 3);
        twin.feed(1, 2, 3, 4, 5);
        for (int i = 0; i < 7; i++) {
            thought(x);
            due.same("behind thought", Snap.of(x) + Snap.fault(x), Snap.of(twin) + Snap.fault(twin));
            due.is("minutes", x.minutes(1), twin.minutes(1));
        }
        for (int i = 0; i < 6; i++) {
            thought(x);
            due.is("undo", x.undo(), twin.undo());
            due.same("undone", Snap.of(x), Snap.of(twin));
        }
        due.is("tape", Snap.tape(x), 20);
    }

    private static void thought(WindingSquare x) {
        for (int what = 0; what <= 3; what++) {
            x.goes(60, what);
            x.round(what);
            x.ant(2000, what);
        }
        for (int i = 0; i < 3; i++) {
            x.over(i);
            x.meets(i, 2 - i);
            x.meets(i, (i + 1) % 3);
            x.pigeons(i);
            x.folded(15, 3, i);
        }
        for (int i = 0; i < 2; i++) {
            x.one(i);
            x.hooks(40, i);
            x.apart(i);
            x.game(30, 30, i);
        }
        x.far(0, 0, 143, -1);
        x.far(0, 0, 143, 6);
        x.with(0, 0, 13, 206);
        x.seen(0, -1);
        x.duel(21, 20, 20);
        x.hedge();
    }

    private static void above9999() {
        due.about("Terms 4", "MINUTE goes on above 9999 there");
        WindingSquare x = Due.atMinute(walkers(2), 9999);
        due.is("the last minute", x.look(2), 9999);
        x.comes(0, 0, 4);
        due.is("none of it goes by", x.minutes(1), -1);
        due.is("over in thought", x.over(0), 12);
        Due.good(x, 0, "pays 7 when minute = 9999 + 11; pays 2;");
        due.is("in minute 10010", x.goes(12, 3), 7);
        due.is("in sixty", x.goes(60, 3), 7);
        due.is("crossed", x.goes(60, 1), 1);
        Due.good(x, 2, "walker 0 wait 11 wait 11 wait 11 wait 11 wait 4;");
        Due.good(x, 0, "pays 7 when minute = 9999 + 59; pays 2;");
        due.is("in minute 10058", x.goes(60, 3), 7);
        due.is("over in sixty", x.over(0), 60);
        x.comes(1, 1, 1);
        due.is("they meet in thought", x.meets(0, 1), -1);
        Due.good(x, 2, "walker 0 wait 11; walker 1 wait 11;");
        due.is("minute", x.look(2), 9999);
        Due.good(x, 2, "walker 0 ahead 1 wait 11;");
        due.is("they meet in thought", x.meets(0, 1), 4);
    }

    private static void fallsAt500() {
        due.about("Terms 4", "no DRAWS: it falls so, if it is 500 at least");
        int[] chances = {0, 1, 499, 500, 501, 1000};
        for (int chance : chances) {
            WindingSquare x = walkers(1);
            Due.good(x, 0, "sees " + chance + "; pays 0;");
            x.comes(0, 0, 4);
            x.state(77);
            due.is("caught at " + chance, x.goes(12, 2), chance >= 500 ? 1 : 0);
            due.is("paid at " + chance, x.goes(12, 3), chance >= 500 ? 50 : 0);
            due.is("no draw", x.look(6), 77);
            x = walkers(1);
            Due.good(x, 0, "slips " + chance + ";");
            x.lay(4, 6, 2);
            x.comes(0, 0, 4);
            x.state(77);
            due.is("over with slips of " + chance, x.over(0), chance >= 500 ? 11 : 12);
            due.is("in behind 11", x.goes(11, 0), chance >= 500 ? 0 : 1);
            due.is("no draw", x.look(6), 77);
        }
    }

    private static void slipsInThought() {
        due.about("Terms 4", "no DRAWS");
        WindingSquare x = walkers(1);
        Due.good(x, 0, "slips 500;");
        Due.good(x, 1, "snow 0 0 to 11 11;");
        x.comes(0, 0, 4);
        due.is("two on in each minute, over in the sixth", x.over(0), 6);
        Due.good(x, 2, "walker 0 ahead 1 back;");
        due.is("turned behind a slip, back in one step and a slip, then out", x.over(0), 4);
        due.is("back out: not crossed", x.goes(60, 1), 0);
        due.is("none slipped", x.of(0, 10), 0);
    }

    private static void overBounds() {
        due.about("Terms 4", "OVER: behind how many MINUTES a WALKER IN is not IN (60 at most; NONE)");
        for (int n : new int[] {12, 13, 59, 60}) {
            due.is("over in " + n, overIn(n).over(0), n);
        }
        due.is("in 61", overIn(61).over(0), -1);
        due.is("in 62", overIn(62).over(0), -1);
        WindingSquare x = walkers(1);
        x.comes(0, 0, 4);
        x.turn(0, 2);
        due.is("in one", x.over(0), 1);
        x.turn(0, 2);
        x.lay(4, 1, 1);
        due.is("never", x.over(0), -1);
        due.about("Promise 16", "NONE, too, if he is not IN.");
        x = walkers(2);
        due.is("never in", x.over(0), -1);
        x.comes(0, 0, 4);
        due.is("the other", x.over(1), -1);
        due.is("in", x.over(0), 12);
        x.minutes(12);
        due.is("in no more", x.over(0), -1);
        due.is("none such", x.over(2), -1);
        due.is("none such", x.over(-1), -1);
        for (int v : FAR_OUT) {
            due.is("none such", x.over(v), -1);
        }
    }

    private static void overByOthers() {
        due.about("Terms 4", "OVER: behind how many MINUTES a WALKER IN is not IN");
        WindingSquare x = walkers(2);
        Due.good(x, 2, "walker 1 ahead 4 wait 3;");
        x.comes(0, 0, 4);
        x.comes(1, 1, 6);
        due.is("another stands in his way for a while", x.over(0), 15);
        due.is("he is over himself", x.over(1), 15);
        Due.good(x, 2, "walker 1 ahead 4 wait 11 wait 11 wait 11 wait 11 wait 11 wait 11;");
        due.is("another stands in his way", x.over(0), -1);
    }

    private static void meetsBounds() {
        due.about("Promise 31", "NONE, too, if one is not IN (alike and IN: 0).");
        WindingSquare x = walkers(3);
        due.is("alike, not in", x.meets(0, 0), -1);
        x.comes(0, 0, 4);
        x.comes(2, 1, 4);
        due.is("alike and in", x.meets(0, 0), 0);
        due.is("alike and in", x.meets(2, 2), 0);
        due.is("alike, not in", x.meets(1, 1), -1);
        due.is("the second is not in", x.meets(0, 1), -1);
        due.is("the first is not in", x.meets(1, 0), -1);
        due.is("both in", x.meets(0, 2), 4);
        due.is("none such", x.meets(0, 3), -1);
        due.is("none such", x.meets(3, 0), -1);
        due.is("none such, alike", x.meets(3, 3), -1);
        due.is("none such, alike", x.meets(-1, -1), -1);
        for (int v : FAR_OUT) {
            due.is("none such", x.meets(v, 0), -1);
            due.is("none such", x.meets(0, v), -1);
        }
        due.about("Terms 4", "behind how many MINUTES (0 .. 60) both are first on one CELL, IN both (NONE)");
        for (int n : new int[] {5, 6, 59, 60, 61}) {
            x = walkers(2);
            StringBuilder waits = new StringBuilder();
            for (int left = n - 5; left > 0; left -= 11) {
                waits.append(" wait ").append(Math.min(11, left));
            }
            Due.good(x, 2, "walker 0 wait 11 wait 11 wait 11 wait 11 wait 11 wait 11; walker 1" + waits + ";");
            x.comes(0, 0, 5);
            x.comes(1, 1, 0);
            due.is("behind " + n, x.meets(0, 1), n <= 60 ? n : -1);
            due.is("behind " + n, x.meets(1, 0), n <= 60 ? n : -1);
        }
    }

    private static void meetsRules() {
        due.about("Terms 4", "go on by their WAYS (no slips, nobody in the way, stones as they are)");
        WindingSquare x = walkers(3);
        Due.good(x, 0, "slips 1000;");
        Due.good(x, 1, "snow 0 0 to 11 11;");
        Due.good(x, 2, "walker 2 wait 11 wait 11;");
        x.comes(0, 0, 4);
        x.comes(1, 1, 4);
        x.comes(2, 0, 6);
        due.is("no slips", x.meets(0, 1), 4);
        x.comes(2, 0, 6);
        Due.good(x, 1, "");
        Due.good(x, 2, "walker 0 ahead 2 wait 11; walker 1 right wait 1; walker 2 left;");
        due.is("one of another is in the way of neither", x.meets(0, 2), -1);
        Due.good(x, 2, "walker 0 wait 11; walker 2 left;");
        due.is("he walks into the one who waits", x.meets(0, 2), 3);
        Due.good(x, 2, "walker 0 wait 11 wait 11; walker 1 right;");
        x.lay(5, 0, 1);
        due.is("a stone keeps him, it counts as gone", x.meets(1, 2), -1);
        Due.good(x, 2, "walker 0 ahead 1 wait 11; walker 1 right ahead 3 left wait 11;");
        due.is("they do not meet", x.meets(0, 1), -1);
        due.about("Terms 4", "both are first on one CELL, IN both");
        x = walkers(2);
        x.comes(0, 0, 4);
        x.comes(1, 2, 4);
        due.is("they change places and never stand on one", x.meets(0, 1), -1);
        Due.good(x, 2, "walker 0 wait 1;");
        due.is("with one waiting they do", x.meets(0, 1), 6);
        x = walkers(2);
        x.comes(0, 0, 4);
        x.turn(0, 2);
        x.comes(1, 1, 0);
        due.is("the first is not in when the other comes there", x.meets(0, 1), -1);
        due.is("nor the other way round", x.meets(1, 0), -1);
        x = walkers(2);
        x.comes(0, 0, 4);
        x.turn(0, 2);
        x.comes(1, 0, 7);
        x.turn(1, 2);
        due.is("both leave at once, not on one cell", x.meets(0, 1), -1);
    }

    private static void lookWhats() {
        due.about("Promise 36", "What 0 WALKERS, 1 those IN (a set), 2 MINUTE, 3 PAID, 4 stones, 5 lines of THE BOOK,"
            + " 6 STATE, 7 lines of THE LAW, 8 of STONES, 9 of WAYS, 10 of WATCH, 11 what can be undone.");
        WindingSquare x = walkers(16);
        Due.good(x, 0, "pays 3; slips 0;");
        Due.good(x, 1, "stone 6 6 to 7 8; snow 0 1; snow 0 2;");
        Due.good(x, 2, "walker 15 wait 11 wait 11; walker 3; walker 4; walker 5;");
        Due.good(x, 3, "from 1 blind; from 2 blind; from 3 blind; from 4 blind; from 5 blind;");
        x.state(-7);
        x.comes(0, 0, 0);
        x.comes(15, 0, 11);
        x.comes(3, 0, 3);
        x.minutes(12);
        x.comes(2, 0, 1);
        int[] want = {16, 1 << 15 | 1 << 2, 12, 6, 6, 6, -7, 2, 3, 4, 5, 6};
        for (int what = 0; what <= 11; what++) {
            due.is("look " + what, x.look(what), want[what]);
        }
        x = walkers(16);
        for (int i = 0; i < 16; i++) {
            due.is("those in", x.look(1), (1 << i) - 1);
            x.comes(i, i < 12 ? 0 : 2, i % 12);
        }
        due.is("all sixteen", x.look(1), 65535);
        Due.good(x, 1, "stone 0 1 to 11 10;");
        due.is("120 stones", x.look(4), 120);
        Due.good(x, 1, "stone 0 0 to 11 11;");
        due.is("144 stones", x.look(4), 144);
    }

    private static void lookWrong() {
        due.about("Promise 36", "NONE for another what.");
        WindingSquare x = busy();
        due.is("what -1", x.look(-1), -1);
        due.is("what 12", x.look(12), -1);
        for (int v : FAR_OUT) {
            due.is("what " + v, x.look(v), -1);
        }
        due.about("Promise 36", "(STATE as it is.)");
        for (int v : new int[] {-1, 0, Integer.MIN_VALUE, Integer.MAX_VALUE, -2}) {
            x.state(v);
            due.is("state", x.look(6), v);
        }
    }
}
