import java.util.ArrayList;
import java.util.List;

/**
 * A refused call changes nothing: of two alike objects one is asked what is refused, and both go on alike behind it,
 * also in what can't be looked at (the steps, the ways, what can be undone, the image, the tape).
 */
public final class RefusedTest {
    private static final Due due = new Due();
    private static final int LEAST = Integer.MIN_VALUE;
    private static final int MOST = Integer.MAX_VALUE;

    public static void main(String[] args) {
        List<Refused> none = new ArrayList<>();
        ofAll(none);
        ofNew(none);
        due.about("Promises 3 to 36", "a new object, and what can't be in it");
        each(RefusedTest::fresh, none);
        List<Refused> some = new ArrayList<>();
        ofAll(some);
        ofBusy(some);
        due.about("Promises 3 to 36", "walkers are in, texts are told, six can be undone");
        each(RefusedTest::busy, some);
        List<Refused> most = new ArrayList<>();
        ofAll(most);
        ofFull(most);
        due.about("Promises 3 to 36", "sixteen walkers, minute 9999, 150 lines, full rows, a full tape");
        each(RefusedTest::full, most);
        texts();
        due.end();
    }

    private interface Made {
        WindingSquare make();
    }

    private interface Call {
        long on(WindingSquare x);
    }

    private record Refused(String name, Call call, long answer) {
    }

    private static void each(Made made, List<Refused> calls) {
        WindingSquare left = made.make();
        String now = told(left);
        String later = future(left);
        for (Refused r : calls) {
            WindingSquare x = made.make();
            due.is(r.name, r.call.on(x), r.answer);
            due.same(r.name + " changes nothing", told(x), now);
            due.same(r.name + " changes nothing of what comes", future(x), later);
        }
    }

    private static String told(WindingSquare x) {
        return Snap.of(x) + Snap.fault(x) + " tape=" + Snap.tape(x);
    }

    /** All that a change could show in: undoing, minutes, the text on the tape, the image, the rows. */
    private static String future(WindingSquare x) {
        StringBuilder b = new StringBuilder();
        b.append(x.minutes(2)).append(Snap.of(x));
        for (int i = 0; i < 9; i++) {
            b.append(" undone=").append(x.undo()).append(Snap.of(x));
        }
        b.append(x.minutes(7)).append(Snap.of(x));
        b.append(" rows=").append(x.known(0, 2)).append(x.known(1, 0)).append(x.move(2)).append(x.gap(7, 1));
        b.append(" text=").append(x.text(0)).append(Snap.fault(x)).append(Snap.of(x));
        b.append(" image=").append(x.image(false)).append(Snap.of(x));
        b.append(x.minutes(9)).append(Snap.of(x));
        b.append(" feed=").append(x.feed(1, 2, 3, 4, 5)).append(Snap.fault(x));
        return b.toString();
    }

    private static WindingSquare fresh() {
        return new WindingSquare();
    }

    private static WindingSquare busy() {
        WindingSquare x = new WindingSquare();
        x.walker(1);
        x.walker(2);
        x.walker(3);
        Due.good(x, 0, "slips 500; sees 500; pays 5;");
        Due.good(x, 1, "snow 0 3 to 11 6; sign 4 0; stone 8 8; stone 9 0;");
        Due.good(x, 2, "walker 0 ahead 2 left ahead 1 right; walker 1 wait 3 left;");
        Due.good(x, 3, "from 2 watch 3;");
        x.image(true);
        x.known(0, 1);
        x.known(1, 0);
        x.move(0);
        x.gap(3, 7);
        x.state(4711);
        Due.tell(x, 0, "pays 1 / 0;");
        Due.tape(x, "pays 88; slips 1;");
        x.comes(0, 0, 4);
        x.comes(1, 1, 4);
        x.turn(0, 2);
        x.turn(0, 2);
        x.lay(1, 1, 1);
        x.minutes(1);
        return x;
    }

    private static WindingSquare full() {
        WindingSquare x = new WindingSquare();
        for (int i = 0; i < 16; i++) {
            x.walker(i % 10);
        }
        x.comes(0, 0, 4);
        x.lay(4, 1, 1);
        Due.atMinute(x, 9999);
        x.image(true);
        for (int i = 0; i < 24; i++) {
            x.known(0, i % 3);
            x.known(1, (i + 1) % 3);
            x.move(i % 4 == 3 ? 1 : 0);
            x.gap(i % 8, 30 - i);
        }
        for (int i = 1; i < 16; i++) {
            x.comes(i, i < 8 ? 1 : 3, i % 8 + 3);
        }
        Due.good(x, 0, "pays 1;".repeat(16));
        Due.tape(x, "pays 88;" + " ".repeat(392));
        return x;
    }

    private static Call is(java.util.function.Predicate<WindingSquare> asked) {
        return x -> asked.test(x) ? 1 : 0;
    }

    private static void add(List<Refused> to, String name, long answer, Call call) {
        to.add(new Refused(name, call, answer));
    }

    /** Refused whatever the state. */
    private static void ofAll(List<Refused> to) {
        for (int v : new int[] {LEAST, -1, 10, MOST}) {
            add(to, "walker " + v, -1, x -> x.walker(v));
        }
        for (int v : new int[] {LEAST, -1, 16, MOST}) {
            add(to, "comes of " + v, 0, is(x -> x.comes(v, 0, 8)));
            add(to, "turn of " + v, 0, is(x -> x.turn(v, 0)));
            add(to, "of " + v, -2, x -> x.of(v, 0));
            add(to, "over " + v, -1, x -> x.over(v));
            add(to, "meets " + v, -1, x -> x.meets(v, 0));
            add(to, "meets, second " + v, -1, x -> x.meets(0, v));
        }
        for (int v : new int[] {LEAST, -1, 4, MOST}) {
            add(to, "comes by " + v, 0, is(x -> x.comes(2, v, 8)));
            add(to, "lay of " + v, 0, is(x -> x.lay(7, 7, v)));
        }
        for (int v : new int[] {LEAST, -1, 12, MOST}) {
            add(to, "comes at " + v, 0, is(x -> x.comes(2, 0, v)));
            add(to, "lay at x " + v, 0, is(x -> x.lay(v, 7, 3)));
            add(to, "lay at y " + v, 0, is(x -> x.lay(7, v, 3)));
            add(to, "cell at x " + v, -2, x -> x.cell(v, 7, 0));
            add(to, "cell at y " + v, -2, x -> x.cell(7, v, 0));
            add(to, "look " + v, -1, x -> x.look(v));
        }
        for (int v : new int[] {LEAST, -1, 3, MOST}) {
            add(to, "turn how " + v, 0, is(x -> x.turn(0, v)));
        }
        for (int v : new int[] {LEAST, -1, 0, 61, MOST}) {
            add(to, "minutes " + v, -1, x -> x.minutes(v));
            add(to, "goes " + v, -1, x -> x.goes(v, 0));
        }
        add(to, "lay what is so", 0, is(x -> x.lay(7, 7, 0)));
        add(to, "end below 0", 0, is(x -> x.end(-1)));
        add(to, "end beyond 400", 0, is(x -> x.end(401)));
        add(to, "end beyond all", 0, is(x -> x.end(MOST)));
        ofThought(to);
    }

    private static void ofThought(List<Refused> to) {
        for (int v : new int[] {LEAST, -2, 4, MOST}) {
            add(to, "goes what " + v, -1, x -> x.goes(1, v));
            add(to, "round " + v, -100, x -> x.round(v));
            add(to, "ant what " + v, -10000, x -> x.ant(1, v));
            add(to, "fault " + v, -1, x -> x.fault(v));
            add(to, "one " + v, -1, x -> x.one(v));
            add(to, "apart " + v, -1, x -> x.apart(v));
            add(to, "pigeons " + v, -1, x -> x.pigeons(v));
            add(to, "hooks what " + v, -1, x -> x.hooks(1, v));
            add(to, "game what " + v, -1, x -> x.game(1, 1, v));
            add(to, "folded what " + v, -1000, x -> x.folded(1, 1, v));
            add(to, "book what " + v, -1, x -> x.book(0, v));
            add(to, "known of v " + v, -1, x -> x.known(0, v));
            add(to, "known of row " + v, -1, x -> x.known(v, -1));
            add(to, "move " + v, -1, x -> x.move(v));
        }
        for (int v : new int[] {LEAST, -2, 144, MOST}) {
            add(to, "far from " + v, -1, x -> x.far(v, 0, 0, -1));
            add(to, "far to " + v, -1, x -> x.far(0, 0, v, 0));
            add(to, "far with " + v, -1, x -> x.far(0, 0, 0, v));
            add(to, "with from " + v, -1, x -> x.with(v, 0, 0, 0));
            add(to, "with to " + v, -1, x -> x.with(0, 0, v, 0));
            add(to, "with nt " + v, -1, x -> x.with(0, 0, 0, v == 144 ? 207 : v));
            add(to, "seen from " + v, -1, x -> x.seen(v, 0));
            add(to, "seen to " + v, -1, x -> x.seen(0, v));
            add(to, "folded " + v, -1000, x -> x.folded(v, 1, 0));
            add(to, "duel " + v, -1, x -> x.duel(v, 0, 0));
            add(to, "duel to " + v, -1, x -> x.duel(10, v == -2 ? -21 : v, 0));
            add(to, "ant " + v, -10000, x -> x.ant(v == 144 ? 2001 : v, 0));
            add(to, "hooks " + v, -1, x -> x.hooks(v, 0));
            add(to, "game " + v, -1, x -> x.game(v, 0, 0));
            add(to, "gap of row " + v, -1, x -> x.gap(v, 0));
            add(to, "gap at " + v, -1, x -> x.gap(0, v));
            add(to, "book " + v, -1, x -> x.book(v == 144 ? 150 : v, 0));
        }
    }

    private static void ofNew(List<Refused> to) {
        add(to, "comes of none", 0, is(x -> x.comes(0, 0, 0)));
        add(to, "turn of none", 0, is(x -> x.turn(0, 0)));
        add(to, "of none", -2, x -> x.of(0, 0));
        add(to, "over of none", -1, x -> x.over(0));
        add(to, "meets of none", -1, x -> x.meets(0, 0));
        add(to, "book without lines", -1, x -> x.book(0, 0));
        add(to, "undo of nothing", 0, is(WindingSquare::undo));
        add(to, "no image", 0, is(x -> x.image(false)));
        add(to, "end of an empty tape", 0, is(x -> x.end(1)));
    }

    private static void ofBusy(List<Refused> to) {
        add(to, "comes of one who is in", 0, is(x -> x.comes(0, 0, 8)));
        add(to, "comes of walker 3 of three", 0, is(x -> x.comes(3, 0, 8)));
        add(to, "comes on a stone", 0, is(x -> x.comes(2, 0, 9)));
        add(to, "comes on a walker", 0, is(x -> x.comes(2, 1, 4)));
        add(to, "turn of one who is not in", 0, is(x -> x.turn(2, 0)));
        add(to, "turn of walker 3 of three", 0, is(x -> x.turn(3, 0)));
        add(to, "lay a stone on a walker", 0, is(x -> x.lay(4, 1, 1)));
        add(to, "lay a stone where one is", 0, is(x -> x.lay(8, 8, 1)));
        add(to, "of walker 3 of three", -2, x -> x.of(3, 0));
        add(to, "of what 14", -2, x -> x.of(0, 14));
        add(to, "over of one who is not in", -1, x -> x.over(2));
        add(to, "meets one who is not in", -1, x -> x.meets(0, 2));
        add(to, "end beyond the tape", 0, is(x -> x.end(18)));
        add(to, "far from a stone", -1, x -> x.far(104, 0, 0, -1));
        add(to, "far to a stone", -1, x -> x.far(0, 0, 104, 3));
        add(to, "with from a stone", -1, x -> x.with(104, 0, 0, 3));
        add(to, "book beyond", -1, x -> x.book(x.look(5), 0));
    }

    private static void ofFull(List<Refused> to) {
        add(to, "the 17th walker", -1, x -> x.walker(0));
        add(to, "minutes 1", -1, x -> x.minutes(1));
        add(to, "minutes 60", -1, x -> x.minutes(60));
        add(to, "feed", -1, x -> x.feed(1, 2, 3, 4, 5));
        for (int v = 0; v <= 2; v++) {
            int turn = v;
            add(to, "the 13th of row 0", -1, x -> x.known(0, turn));
            add(to, "the 13th of row 1", -1, x -> x.known(1, turn));
            add(to, "the 25th move", -1, x -> x.move(turn));
            add(to, "the ninth gap", -1, x -> x.gap(turn, 0));
        }
        for (int v = 0; v < 16; v++) {
            int who = v;
            add(to, "comes of one who is in", 0, is(x -> x.comes(who, 0, 8)));
        }
        add(to, "line 150", -1, x -> x.book(150, 0));
    }

    /** A text that is refused empties the tape and tells its fault, but nothing else. */
    private static void texts() {
        String[] bad = {"slips 1; sees 2; pays", "stone 0 0 to 11 11; bare 12 0;", "walker 0 back; walker 1 back; left",
            "from 0 watch 9; from 0 watch 10;"};
        due.about("Promise 10", "NONE: no such one (fault() tells 0), or a FAULT (it stays as it was).");
        WindingSquare left = busy();
        left.end(0);
        String now = Snap.of(left);
        String later = future(left);
        for (int k = -1; k <= 4; k++) {
            WindingSquare x = busy();
            x.end(0);
            Due.tape(x, bad[Math.floorMod(k, 4)]);
            due.is("text " + k, x.text(k), -1);
            due.is("a fault is told", x.fault(0) == 0, k < 0 || k > 3);
            due.is("the tape is empty", Snap.tape(x), 0);
            due.same("text " + k + " changes nothing else", Snap.of(x), now);
            due.same("text " + k + " changes nothing of what comes", future(x), later);
        }
    }
}
