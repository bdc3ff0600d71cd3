/** The edges of promises 34 and 35: six that are kept, what forgets them and what does not, the image. */
public final class EdgeUndoTest {
    private static final Due due = new Due();

    public static void main(String[] args) {
        nothing();
        eachKind();
        eachNumber();
        sixKept();
        sixMinutes();
        notUndoneYet();
        stateAndBook();
        forgets();
        forgetsNot();
        refusedForgetsNot();
        faultsForgetNot();
        thoughtForgetsNot();
        undoneStays();
        imageNone();
        imageTwice();
        imageOfAll();
        imageNotOf();
        imageNothingToUndo();
        imageTakenAnew();
        imageUndone();
        due.end();
    }

    private interface Call {
        void on(WindingSquare x);
    }

    /** Three walkers, the first two in; slips and ways are told; six can be undone. */
    private static WindingSquare made() {
        WindingSquare x = new WindingSquare();
        x.walker(1);
        x.walker(2);
        x.walker(3);
        Due.good(x, 0, "slips 500; sees 500; pays 5;");
        Due.good(x, 1, "snow 0 3 to 11 6; sign 4 0; stone 8 8;");
        Due.good(x, 2, "walker 0 ahead 2 left ahead 1 right; walker 1 wait 3;");
        Due.good(x, 3, "from 2 watch 3;");
        x.known(0, 1);
        x.known(1, 0);
        x.move(0);
        x.gap(3, 20);
        x.gap(3, 7);
        x.state(4711);
        x.comes(0, 0, 4);
        x.comes(1, 1, 4);
        x.turn(0, 2);
        x.turn(0, 2);
        x.lay(1, 1, 1);
        x.minutes(1);
        return x;
    }

    private static void nothing() {
        due.about("Promise 34", "false if there is nothing.");
        WindingSquare x = new WindingSquare();
        due.is("new", x.undo(), false);
        due.is("again", x.undo(), false);
        x.lay(0, 0, 1);
        due.is("one", x.undo(), true);
        due.is("no more", x.undo(), false);
        due.is("look(11)", x.look(11), 0);
        String before = Snap.of(x);
        x.undo();
        due.same("nothing changed", Snap.of(x), before);
    }

    private static void eachKind() {
        due.about("Terms 4", "the latest MINUTE, COMING, TURNING, LAYING not undone yet goes back");
        Call[] calls = {x -> x.minutes(1), x -> x.comes(2, 2, 5), x -> x.turn(0, 0), x -> x.turn(1, 2), x -> x.lay(9, 9, 3),
            x -> x.lay(8, 8, 0), x -> x.lay(4, 1, 2)};
        for (Call call : calls) {
            WindingSquare x = made();
            String before = Snap.of(x);
            call.on(x);
            due.is("something changed", before.equals(Snap.of(x)), false);
            due.is("undo", x.undo(), true);
            due.same("as it was, but one is kept less", Snap.of(x), before.replace("look11=6", "look11=5"));
        }
        WindingSquare x = made();
        for (Call call : calls) {
            call.on(x);
        }
        WindingSquare twin = made();
        for (int n = calls.length - 1; n > calls.length - 7; n--) {
            due.is("undo", x.undo(), true);
            twin = made();
            for (int i = 0; i < n; i++) {
                calls[i].on(twin);
            }
            String kept = "look11=" + twin.look(11);
            due.same("as behind " + n, Snap.of(x), Snap.of(twin).replace(kept, "look11=" + x.look(11)));
        }
    }

    /** What of a walker is told again while he is in another time. */
    private static void eachNumber() {
        due.about("Terms 4", "COMING, TURNING, LAYING not undone yet goes back");
        WindingSquare x = new WindingSquare();
        x.walker(0);
        x.comes(0, 0, 4);
        x.lay(4, 0, 3);
        x.turn(0, 2);
        x.minutes(1);
        due.is("he comes by another side", x.comes(0, 3, 9), true);
        due.is("side", x.of(0, 7), 3);
        x.undo();
        due.is("not in", x.of(0, 1), 0);
        x.undo();
        int[] back = {0, 1, 4, 0, 2, 2, 2, 0};
        for (int what = 0; what <= 7; what++) {
            due.is("of " + what, x.of(0, what), back[what]);
        }
        x.undo();
        int[] before = {0, 1, 4, 0, 0, 0, 0, 0};
        for (int what = 0; what <= 7; what++) {
            due.is("of " + what, x.of(0, what), before[what]);
        }
        due.is("out by another side then", x.minutes(12), 1);
    }

    private static void sixKept() {
        due.about("Terms 4", "6 are kept");
        for (int n = 0; n <= 13; n++) {
            WindingSquare x = new WindingSquare();
            for (int i = 0; i < n; i++) {
                x.lay(i % 12, i / 12, 1);
            }
            due.is("kept of " + n, x.look(11), Math.min(6, n));
            for (int i = 0; i < Math.min(6, n); i++) {
                due.is("undo", x.undo(), true);
                due.is("stones", x.look(4), n - 1 - i);
                due.is("kept", x.look(11), Math.min(6, n) - 1 - i);
            }
            due.is("no more", x.undo(), false);
            due.is("stones", x.look(4), Math.max(0, n - 6));
        }
    }

    private static void sixMinutes() {
        due.about("Terms 4", "the latest MINUTE");
        WindingSquare x = new WindingSquare();
        x.walker(0);
        x.comes(0, 0, 4);
        x.minutes(60);
        due.is("six of sixty", x.look(11), 6);
        for (int i = 1; i <= 6; i++) {
            due.is("undo", x.undo(), true);
            due.is("minute", x.look(2), 60 - i);
        }
        due.is("no more", x.undo(), false);
        x = new WindingSquare();
        x.walker(0);
        x.comes(0, 0, 4);
        x.minutes(12);
        due.is("over", x.of(0, 1), 0);
        x.undo();
        due.is("in again", x.of(0, 1), 1);
        due.is("y", x.of(0, 3), 11);
        due.is("not crossed", x.of(0, 8), 0);
        due.is("nothing paid", x.look(3), 0);
        due.is("over again", x.minutes(1), 1);
    }

    private static void notUndoneYet() {
        due.about("Terms 4", "not undone yet goes back");
        WindingSquare x = new WindingSquare();
        x.lay(0, 0, 1);
        x.lay(1, 0, 1);
        x.undo();
        x.lay(2, 0, 1);
        due.is("two are kept", x.look(11), 2);
        x.undo();
        due.is("the latest not undone", x.cell(2, 0, 0), 0);
        due.is("the one before is undone already", x.cell(1, 0, 0), 0);
        due.is("the first is yet", x.cell(0, 0, 0), 1);
        x.undo();
        due.is("the first", x.cell(0, 0, 0), 0);
        due.is("no more", x.undo(), false);
        for (int i = 0; i < 7; i++) {
            x.lay(i, 1, 1);
        }
        x.undo();
        x.lay(7, 1, 1);
        x.lay(8, 1, 1);
        due.is("six again", x.look(11), 6);
        for (int i = 0; i < 6; i++) {
            x.undo();
        }
        due.is("two that were let go stay", x.look(4), 2);
    }

    private static void stateAndBook() {
        due.about("Terms 4", "(STATE, THE BOOK, too)");
        WindingSquare x = made();
        x.minutes(1);
        int state = x.look(6);
        int lines = x.look(5);
        x.minutes(2);
        due.is("drawn", x.look(6) != state, true);
        due.is("written", x.look(5) > lines, true);
        x.undo();
        x.undo();
        due.is("state", x.look(6), state);
        due.is("lines", x.look(5), lines);
        due.is("no such line", x.book(lines, 0), -1);
        x.turn(1, 1);
        due.is("a new line in its place", x.book(lines, 1), 1);
        due.is("who", x.book(lines, 2), 1);
        due.is("the line before is as it was", x.book(lines - 1, 0) <= 2, true);
    }

    private static void forgets() {
        due.about("Terms 4", "whatever else is told but THE LAW and what is told for thought (KNOWN, ROUND, HEDGE)");
        String[] names = {"state", "the same state", "walker", "stones", "no stones", "ways", "no ways", "watch", "no watch",
            "the image gone back to"};
        Call[] calls = {x -> x.state(1), x -> x.state(x.look(6)), x -> x.walker(0), x -> Due.good(x, 1, "snow 1 1;"),
            x -> x.text(1), x -> Due.good(x, 2, "walker 0 left;"), x -> x.text(2), x -> Due.good(x, 3, "from 0 blind;"),
            x -> x.text(3), x -> x.image(false)};
        for (int i = 0; i < calls.length; i++) {
            WindingSquare x = made();
            x.image(true);
            due.is("six before", x.look(11), 6);
            calls[i].on(x);
            due.is(names[i] + " forgets", x.look(11), 0);
            String before = Snap.of(x);
            due.is(names[i] + " forgets", x.undo(), false);
            due.same("nothing goes back", Snap.of(x), before);
            x.lay(9, 9, 1);
            due.is("what is done then", x.look(11), 1);
        }
    }

    private static void keeps(String name, Call call) {
        WindingSquare x = made();
        WindingSquare twin = made();
        call.on(x);
        due.is(name + " forgets nothing", x.look(11), 6);
        for (int i = 0; i < 6; i++) {
            due.is("undo", x.undo(), true);
            twin.undo();
            due.is("minute", x.look(2), twin.look(2));
            due.is("those in", x.look(1), twin.look(1));
            due.is("lines", x.look(5), twin.look(5));
            due.is("stones", x.look(4), twin.look(4));
        }
        due.is("no more", x.undo(), false);
    }

    private static void forgetsNot() {
        due.about("Terms 4", "but THE LAW and what is told for thought (KNOWN, ROUND, HEDGE)");
        keeps("the law", x -> Due.good(x, 0, "pays 7;"));
        keeps("an empty law", x -> x.text(0));
        keeps("a turn of a row", x -> x.known(0, 2));
        keeps("a row emptied", x -> x.known(1, -1));
        keeps("a move", x -> x.move(2));
        keeps("moves emptied", x -> x.move(-1));
        keeps("a gap", x -> x.gap(0, 0));
        keeps("gaps emptied", x -> x.gap(-1, 0));
        due.about("Terms 4", "(feed(), end(), what is refused, a text with a FAULT, the taking of THE IMAGE do not)");
        keeps("feed()", x -> x.feed(1, 2, 3, 4, 5));
        keeps("end()", x -> x.end(0));
        keeps("the taking of the image", x -> x.image(true));
    }

    private static void refusedForgetsNot() {
        due.about("Terms 4", "what is refused");
        keeps("walker(-1)", x -> x.walker(-1));
        keeps("walker(10)", x -> x.walker(10));
        keeps("comes of one who is in", x -> x.comes(0, 0, 9));
        keeps("comes of none", x -> x.comes(3, 0, 9));
        keeps("comes on a walker", x -> x.comes(2, 1, 4));
        keeps("turn of one who is not in", x -> x.turn(2, 0));
        keeps("turn how", x -> x.turn(0, 3));
        keeps("lay what is so", x -> x.lay(8, 8, 1));
        keeps("lay outside", x -> x.lay(12, 0, 1));
        keeps("lay on a walker", x -> x.lay(4, 1, 1));
        keeps("minutes(0)", x -> x.minutes(0));
        keeps("minutes(61)", x -> x.minutes(61));
        keeps("the image that is not", x -> x.image(false));
        keeps("feed when full", x -> {
            for (int i = 0; i < 21; i++) {
                x.feed(0, 0, 0, 0, 0);
            }
        });
        keeps("end beyond", x -> x.end(401));
        keeps("end below", x -> x.end(-1));
        keeps("no such text", x -> x.text(4));
        keeps("no such text", x -> x.text(-1));
        keeps("known of no row", x -> x.known(2, 0));
        keeps("a move that is none", x -> x.move(3));
        keeps("a gap that is none", x -> x.gap(8, 0));
        WindingSquare x = new WindingSquare();
        for (int i = 0; i < 16; i++) {
            x.walker(0);
        }
        x.comes(15, 0, 0);
        due.is("the 17th", x.walker(0), -1);
        due.is("one yet", x.look(11), 1);
    }

    private static void faultsForgetNot() {
        due.about("Terms 4", "a text with a FAULT");
        String[] bad = {"pays", "stone 12 0;", "walker 3;", "from 1000 blind;"};
        for (int k = 0; k < 4; k++) {
            String text = bad[k];
            int of = k;
            keeps("a fault of text " + k, x -> due.is("a fault", Due.tell(x, of, text), -1));
        }
    }

    private static void thoughtForgetsNot() {
        due.about("Terms 4", "(nothing of it stays");
        keeps("goes", x -> x.goes(60, 3));
        keeps("over", x -> x.over(0));
        keeps("meets", x -> x.meets(0, 1));
        keeps("far, with, seen", x -> {
            x.far(0, 0, 143, -1);
            x.far(0, 0, 143, 6);
            x.with(0, 0, 0, 206);
            x.seen(0, -1);
        });
        keeps("one, round, hedge", x -> {
            x.one(1);
            x.round(3);
            x.hedge();
        });
        keeps("folded, duel, ant, hooks, apart, pigeons, game", x -> {
            x.folded(15, 1, 1);
            x.duel(12, 20, 20);
            x.ant(2000, 3);
            x.hooks(40, 0);
            x.apart(0);
            x.pigeons(1);
            x.game(30, 30, 1);
        });
        keeps("what is looked at", x -> {
            Snap.of(x);
            Snap.fault(x);
        });
    }

    /** What is told without forgetting is not undone with what was done before it. */
    private static void undoneStays() {
        due.about("Terms 4", "whatever else is told but THE LAW");
        WindingSquare x = made();
        Due.good(x, 0, "pays 77; sees 1; slips 0;");
        x.known(0, 2);
        x.move(0);
        x.gap(3, 1);
        x.feed(0, 0, 0, 0, 0);
        x.undo();
        due.is("the law stays", x.of(0, 13), 77);
        due.is("its lines stay", x.look(7), 3);
        due.is("the row stays", x.known(0, 0), 3);
        due.is("the moves stay", x.move(0), 3);
        due.is("the gaps stay", x.hedge(), 2);
        due.is("the tape stays", Snap.tape(x), 20);
        x.minutes(1);
        due.is("the same again by another law: no slip", x.of(0, 10), 0);
    }

    private static void imageNone() {
        due.about("Promise 35", "THE IMAGE is taken (true), or gone back to (false): true; false if there is none.");
        WindingSquare x = made();
        String before = Snap.of(x);
        due.is("none", x.image(false), false);
        due.same("nothing changed", Snap.of(x), before);
        due.is("taken", x.image(true), true);
        due.same("the taking changes nothing", Snap.of(x), before);
        due.is("gone back to", x.image(false), true);
    }

    private static void change(WindingSquare x) {
        x.minutes(4);
        x.walker(9);
        x.comes(2, 3, 3);
        x.comes(3, 0, 11);
        Due.good(x, 0, "pays 77;");
        Due.good(x, 1, "stone 0 0 to 11 2; sign 5 5;");
        Due.good(x, 2, "walker 0 back; walker 3 back;");
        Due.good(x, 3, "from 0 watch 9; from 0 watch 8;");
        x.state(1);
        tellOthers(x);
        x.minutes(40);
        x.lay(6, 6, 2);
    }

    private static void tellOthers(WindingSquare x) {
        x.known(0, -1);
        x.known(1, -1);
        x.move(-1);
        x.gap(-1, 0);
        for (int i = 0; i < 5; i++) {
            x.known(0, 2);
            x.known(1, 2);
            x.move(2 - i % 3);
            x.gap(i, 9);
        }
    }

    /** A walker 3 who crosses, slips, is caught, and is in again by a way of his own. */
    private static void busyFourth(WindingSquare x) {
        x.walker(9);
        Due.good(x, 0, "slips 1000; sees 1000;");
        Due.good(x, 2, "walker 3 ahead 11 ahead 1;");
        x.comes(3, 0, 11);
        x.minutes(12);
        due.is("crossed", x.of(3, 8), 1);
        due.is("caught", x.of(3, 9), 1);
        due.is("slipped", x.of(3, 10) > 0, true);
        Due.good(x, 2, "walker 3 ahead 3 wait 11;");
        x.comes(3, 0, 11);
        x.minutes(2);
        due.is("in", x.of(3, 1), 1);
    }

    private static void imageTwice() {
        due.about("Terms 4", "gone back to it may be more than once");
        WindingSquare x = made();
        x.image(true);
        String then = Snap.of(x).replace("look11=6", "look11=0");
        for (int i = 0; i < 4; i++) {
            due.is("gone back to", x.image(false), true);
            due.same("as it was, time " + i, Snap.of(x), then);
            change(x);
            due.is("all is changed", Snap.of(x).equals(then), false);
        }
        due.is("gone back to", x.image(false) && x.image(false), true);
        due.same("as it was, twice at once", Snap.of(x), then);
    }

    /** What can't be asked (the step, the ways, the laws) shows in how all goes on. */
    private static void imageOfAll() {
        due.about("Terms 4", "THE IMAGE: all that is and was told");
        WindingSquare x = made();
        WindingSquare twin = made();
        x.image(true);
        change(x);
        x.image(false);
        busyFourth(x);
        x.image(false);
        for (int i = 0; i < 20; i++) {
            due.is("minutes", x.minutes(1), twin.minutes(1));
            due.same("goes on as it did", Snap.of(x).replaceAll("look11=.", ""), Snap.of(twin).replaceAll("look11=.", ""));
        }
        due.is("a new one has its number", x.walker(4), 3);
        for (int what = 0; what <= 10; what++) {
            due.is("and is new: " + what, x.of(3, what), what == 0 ? 4 : what == 1 || what > 7 ? 0 : -1);
        }
        due.is("and has no way", x.comes(3, 0, 11), true);
        x.minutes(1);
        due.is("one on", x.of(3, 3), 1);
        due.is("the rows go on", x.known(0, 0), 2);
        due.is("the rows go on", x.known(1, 0), 2);
        due.is("the moves go on", x.move(0), 2);
        due.is("the gaps go on", x.gap(0, 0), 3);
    }

    private static void imageNotOf() {
        due.about("Terms 4", "but the TAPE, fault() and what can be undone (nothing then)");
        WindingSquare x = made();
        x.feed(0, 0, 0, 0, 0);
        x.image(true);
        x.feed(0, 0, 0, 0, 0);
        x.image(false);
        due.is("the tape is as it is", Snap.tape(x), 40);
        x.end(7);
        x.image(false);
        due.is("the tape is as it is", Snap.tape(x), 7);
        x.end(0);
        x.image(false);
        due.is("the tape is empty yet", Snap.tape(x), 0);
        due.fault(x, 0, "pays 1 / 0;", 2, 9);
        x.image(false);
        due.is("fault() is as it is", x.fault(0), 2);
        due.is("fault() is as it is", x.fault(1), 9);
        x.image(true);
        x.text(0);
        x.image(false);
        due.is("fault() is as it is", x.fault(0), 0);
        due.is("fault() is as it is", x.fault(1), -1);
    }

    private static void imageNothingToUndo() {
        due.about("Terms 4", "what can be undone (nothing then)");
        WindingSquare x = made();
        x.image(true);
        due.is("the taking leaves six", x.look(11), 6);
        x.image(false);
        due.is("nothing then", x.look(11), 0);
        due.is("nothing then", x.undo(), false);
        x.minutes(2);
        due.is("then two", x.look(11), 2);
        x.image(false);
        due.is("nothing then", x.undo(), false);
    }

    private static void imageTakenAnew() {
        due.about("Terms 4", "as it was when it was taken");
        WindingSquare x = made();
        x.image(true);
        change(x);
        x.image(true);
        String then = Snap.of(x).replaceAll("look11=.", "");
        x.minutes(5);
        Due.good(x, 0, "");
        x.image(false);
        due.same("as at the second taking", Snap.of(x).replaceAll("look11=.", ""), then);
        x = new WindingSquare();
        x.image(true);
        x.walker(1);
        x.walker(2);
        x.walker(3);
        change(x);
        x.image(false);
        due.same("as new", Snap.of(x), Snap.of(new WindingSquare()));
    }

    private static void imageUndone() {
        due.about("Terms 4", "as it was when it was taken");
        WindingSquare x = made();
        x.image(true);
        String then = Snap.of(x).replace("look11=6", "look11=0");
        for (int i = 0; i < 6; i++) {
            due.is("undone behind the taking", x.undo(), true);
        }
        x.comes(2, 0, 9);
        x.turn(2, 1);
        x.minutes(1);
        x.image(false);
        due.same("also what was undone and written over", Snap.of(x), then);
    }
}
