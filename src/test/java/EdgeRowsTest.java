/** The edges of promises 20 to 23, 29 and 30: rows of turns, moves, gaps. */
public final class EdgeRowsTest {
    private static final Due due = new Due();
    private static final int[] FAR_OUT = {Integer.MIN_VALUE, Integer.MIN_VALUE + 1, -1000, 1000, Integer.MAX_VALUE - 1,
        Integer.MAX_VALUE};

    public static void main(String[] args) {
        knownBounds();
        knownTwelve();
        knownEmptied();
        oneWhats();
        oneRows();
        howManyRows();
        moveBounds();
        moveTwentyFour();
        roundWhats();
        roundEmpty();
        wound();
        home();
        again();
        about();
        gapBounds();
        gapEight();
        hedge();
        due.end();
    }

    private static WindingSquare rows(String first, String second) {
        WindingSquare x = new WindingSquare();
        for (int i = 0; i < first.length(); i++) {
            x.known(0, first.charAt(i) - '0');
        }
        for (int i = 0; i < second.length(); i++) {
            x.known(1, second.charAt(i) - '0');
        }
        return x;
    }

    private static WindingSquare moves(String moves) {
        WindingSquare x = new WindingSquare();
        for (int i = 0; i < moves.length(); i++) {
            x.move(moves.charAt(i) - '0');
        }
        return x;
    }

    private static void knownBounds() {
        due.about("Promise 20", "NONE if one can't be");
        WindingSquare x = new WindingSquare();
        for (int v = -2; v <= 3; v++) {
            due.is("row -1", x.known(-1, v), -1);
            due.is("row 2", x.known(2, v), -1);
        }
        for (int v : FAR_OUT) {
            due.is("row " + v, x.known(v, 0), -1);
            due.is("v " + v, x.known(0, v), -1);
        }
        for (int row = 0; row <= 1; row++) {
            due.is("v -2", x.known(row, -2), -1);
            due.is("v 3", x.known(row, 3), -1);
            due.is("none came: the first", x.known(row, 0), 1);
        }
        due.about("Promise 20", "A turn of row 0, 1 for KNOWN (v NONE: it is empty then): how many");
        due.is("v 2", x.known(0, 2), 2);
        due.is("v 1", x.known(0, 1), 3);
        due.is("the other row", x.known(1, 2), 2);
        due.is("the other row", x.known(1, 1), 3);
        due.is("left, back, right in both", x.one(0), 1);
        due.is("so many", x.one(1), 6);
    }

    private static void knownTwelve() {
        due.about("Promise 20", "or there are twelve");
        for (int row = 0; row <= 1; row++) {
            WindingSquare x = new WindingSquare();
            for (int i = 1; i <= 12; i++) {
                due.is("known", x.known(row, i == 12 ? 0 : 2), i);
            }
            for (int v = 0; v <= 2; v++) {
                due.is("the 13th", x.known(row, v), -1);
            }
            for (int i = 1; i <= 12; i++) {
                due.is("the other has its own", x.known(1 - row, i == 5 ? 1 : 2), i);
            }
            due.is("one left, elsewhere one right", x.one(0), 1);
            due.is("twelve and twelve", x.one(1), 24);
            due.is("the 13th of the other", x.known(1 - row, 1), -1);
        }
    }

    private static void knownEmptied() {
        due.about("Promise 20", "(v NONE: it is empty then)");
        WindingSquare x = rows("012012012012", "012012012012");
        due.is("emptied when full", x.known(1, -1), 0);
        due.is("the other is not", x.known(0, 0), -1);
        due.is("twelve and none", x.one(0), 0);
        due.is("empty again", x.known(1, -1), 0);
        due.is("anew", x.known(1, 2), 1);
        due.is("emptied", x.known(0, -1), 0);
        due.is("none and one", x.one(0), 0);
        due.is("of the empty one", x.one(1), 1);
        due.is("anew", x.known(0, 2), 1);
        due.is("alike", x.one(0), 1);
        due.is("nothing of the old row", x.one(1), 1);
    }

    private static void oneWhats() {
        due.about("Promise 21", "NONE for another what.");
        WindingSquare x = rows("01", "10");
        due.is("what -1", x.one(-1), -1);
        due.is("what 2", x.one(2), -1);
        for (int v : FAR_OUT) {
            due.is("what " + v, x.one(v), -1);
        }
        due.about("Promise 21", "KNOWN what 0 ONE, 1 how many rows.");
        due.is("one", x.one(0), 1);
        due.is("how many", x.one(1), 2);
    }

    private static void oneRows() {
        due.about("Terms 4", "whether the second is the first, begun elsewhere and gone round, or so with left for right: 1, 0");
        String[][] alike = {{"", ""}, {"0", "0"}, {"0", "1"}, {"2", "2"}, {"012", "120"}, {"012", "201"}, {"012", "102"},
            {"0012", "1200"}, {"0012", "0211"}, {"000000000001", "111111011111"}, {"000000000012", "120000000000"}};
        String[][] unlike = {{"", "0"}, {"0", ""}, {"0", "2"}, {"2", "1"}, {"012", "01"}, {"01", "012"}, {"0012", "0021"},
            {"00", "0"}, {"0101", "01"}, {"001", "002"}, {"0011", "0101"}, {"000000000001", "000000000002"},
            {"000000000000", "00000000000"}};
        for (String[] w : alike) {
            due.is(w[0] + " and " + w[1], rows(w[0], w[1]).one(0), 1);
            due.is(w[1] + " and " + w[0], rows(w[1], w[0]).one(0), 1);
        }
        for (String[] w : unlike) {
            due.is(w[0] + " and " + w[1], rows(w[0], w[1]).one(0), 0);
        }
    }

    private static void howManyRows() {
        due.about("Terms 4", "how many unlike rows come of the first so (empty: 1)");
        String[] first = {"", "0", "1", "2", "01", "02", "22", "012", "0011", "0101", "000000000000", "222222222222",
            "010101010101", "012012012012", "000000000002", "000000111111", "000000000012", "001122001122"};
        int[] want = {1, 2, 2, 1, 2, 4, 1, 6, 4, 2, 2, 1, 2, 6, 24, 12, 24, 12};
        for (int i = 0; i < first.length; i++) {
            due.is("of " + first[i], rows(first[i], "01").one(1), want[i]);
            due.is("of " + first[i] + ", the second empty", rows(first[i], "").one(1), want[i]);
        }
    }

    private static void moveBounds() {
        due.about("Promise 22", "NONE if one can't be");
        WindingSquare x = new WindingSquare();
        due.is("v -2", x.move(-2), -1);
        due.is("v 3", x.move(3), -1);
        for (int v : FAR_OUT) {
            due.is("v " + v, x.move(v), -1);
        }
        due.about("Promise 22", "A move for ROUND (NONE: it is empty then): how many");
        due.is("none came: the first", x.move(0), 1);
        due.is("left", x.move(1), 2);
        due.is("right", x.move(2), 3);
        due.is("emptied", x.move(-1), 0);
        due.is("empty again", x.move(-1), 0);
        due.is("home", x.round(1), 0);
        due.is("anew", x.move(0), 1);
        due.is("home", x.round(1), 1);
    }

    private static void moveTwentyFour() {
        due.about("Promise 22", "or there are 24");
        WindingSquare x = new WindingSquare();
        for (int i = 1; i <= 24; i++) {
            due.is("move", x.move(0), i);
        }
        for (int v = 0; v <= 2; v++) {
            due.is("the 25th", x.move(v), -1);
        }
        due.is("home of 24", x.round(1), 24);
        due.is("wound", x.round(0), 0);
        due.is("emptied when full", x.move(-1), 0);
        due.is("anew", x.move(2), 1);
        due.is("wound", x.round(0), 1);
    }

    private static void roundWhats() {
        due.about("Promise 23", "NONE - 99 for another what.");
        WindingSquare x = moves("020");
        due.is("what -1", x.round(-1), -100);
        due.is("what 4", x.round(4), -100);
        for (int v : FAR_OUT) {
            due.is("what " + v, x.round(v), -100);
        }
        due.about("Promise 23", "ROUND what 0 WOUND, 1 HOME, 2 AGAIN, 3 ABOUT.");
        int[] want = {1, 2, 0, -1};
        for (int i = 0; i < 8; i++) {
            due.is("what " + i % 4, x.round(i % 4), want[i % 4]);
        }
        x = moves("0020200202");
        int[] home = {4, 0, 1, 4};
        for (int i = 0; i < 8; i++) {
            due.is("what " + i % 4, x.round(i % 4), home[i % 4]);
        }
    }

    private static void roundEmpty() {
        due.about("Terms 4", "of a told row of up to 24 of 0 one on, 1 left, 2 right: from the origin, facing up");
        for (int what = 0; what <= 3; what++) {
            due.is("an empty row: " + what, new WindingSquare().round(what), 0);
        }
        due.is("facing up, then right: not home", moves("0200").round(1), 3);
        due.is("up and left and down and right", moves("01010100").round(1), 1);
    }

    private static void wound() {
        due.about("Terms 4", "WOUND: rights less lefts");
        due.is("24 rights", moves("2".repeat(24)).round(0), 24);
        due.is("24 lefts", moves("1".repeat(24)).round(0), -24);
        due.is("one left", moves("1").round(0), -1);
        due.is("as many", moves("12".repeat(12)).round(0), 0);
        due.is("steps do not count", moves("0".repeat(23) + "1").round(0), -1);
    }

    private static void home() {
        due.about("Terms 4", "HOME: how far it ends from where it began (x and y added)");
        due.is("up", moves("0".repeat(24)).round(1), 24);
        due.is("left", moves("1" + "0".repeat(23)).round(1), 23);
        due.is("right", moves("2" + "0".repeat(23)).round(1), 23);
        due.is("down", moves("22" + "0".repeat(22)).round(1), 22);
        due.is("left and down", moves("10001000").round(1), 6);
        due.is("turns alone", moves("1".repeat(24)).round(1), 0);
    }

    private static void again() {
        due.about("Terms 4", "AGAIN: how many places are come to more than once, the origin at first counted, a turn on the spot"
            + " not");
        due.is("no step", moves("").round(2), 0);
        due.is("turns on the spot", moves("1".repeat(24)).round(2), 0);
        due.is("one on and back: the origin", moves("0220").round(2), 1);
        due.is("two on and back: the origin and the one between", moves("002200").round(2), 2);
        due.is("two on and one back", moves("00220").round(2), 1);
        due.is("there, back and there: each once told", moves("0220220220").round(2), 2);
        due.is("round a square and past", moves("02020200").round(2), 1);
        due.is("round a square and once more", moves("020202020").round(2), 2);
        due.is("round a square to the origin", moves("0202020").round(2), 1);
        due.is("one turn before home", moves("020202").round(2), 0);
        due.is("far out and back", moves("0".repeat(11) + "22" + "0".repeat(11)).round(2), 11);
        due.is("far out, with no way back", moves("0".repeat(24)).round(2), 0);
    }

    private static void about() {
        due.about("Terms 4", "ABOUT: does it end on the origin (FACING whatever), twice the area it goes about (without sign;"
            + " else NONE)");
        due.is("nothing", moves("").round(3), 0);
        due.is("turns alone", moves("12").round(3), 0);
        due.is("one on and back", moves("0220").round(3), 0);
        due.is("a square by rights", moves("0202020").round(3), 2);
        due.is("a square by lefts", moves("0101010").round(3), 2);
        due.is("facing another way", moves("0202020" + "211").round(3), 2);
        due.is("not home", moves("020202").round(3), -1);
        due.is("past home", moves("02020200").round(3), -1);
        due.is("home in x alone", moves("0").round(3), -1);
        due.is("home in y alone", moves("20").round(3), -1);
        due.is("twice round", moves("0202020" + "2" + "0202020").round(3), 4);
        due.is("twice by rights, about two squares", moves("0202020" + "0202020").round(3), 4);
        due.is("once by rights, once back by lefts", moves("0202020" + "22" + "0101010").round(3), 0);
        due.is("an eight, by rights and by lefts", moves("0202020" + "0101010").round(3), 0);
        String side = "0".repeat(5);
        due.is("five by five", moves(side + "2" + side + "2" + side + "2" + side).round(3), 50);
    }

    private static void gapBounds() {
        due.about("Promise 29", "NONE if one can't be");
        WindingSquare x = new WindingSquare();
        due.is("row -2", x.gap(-2, 0), -1);
        due.is("row 8", x.gap(8, 0), -1);
        due.is("at -1", x.gap(0, -1), -1);
        due.is("at 31", x.gap(0, 31), -1);
        due.is("row 7, at 31", x.gap(7, 31), -1);
        for (int v : FAR_OUT) {
            due.is("row " + v, x.gap(v, 0), -1);
            due.is("at " + v, x.gap(0, v), -1);
        }
        due.is("none came", x.hedge(), 0);
        due.about("Terms 4", "(of row 0 .. 7, at 0 .. 30; a row may have several)");
        due.is("the first", x.gap(0, 0), 1);
        due.is("row 7", x.gap(7, 30), 2);
        due.is("row 0 again", x.gap(0, 30), 3);
        due.is("the same again", x.gap(0, 30), 4);
        due.is("hedge", x.hedge(), 60);
    }

    private static void gapEight() {
        due.about("Promise 29", "or there are eight");
        WindingSquare x = new WindingSquare();
        for (int i = 1; i <= 8; i++) {
            due.is("gap", x.gap(3, 30), i);
        }
        due.is("the ninth of that row", x.gap(3, 0), -1);
        due.is("the ninth of another", x.gap(5, 30), -1);
        due.is("hedge without the ninth", x.hedge(), 60);
        due.about("Promise 29", "(row NONE: none is then)");
        due.is("emptied when full", x.gap(-1, 0), 0);
        due.is("none told", x.hedge(), 0);
        due.is("emptied, whatever at", x.gap(-1, Integer.MIN_VALUE), 0);
        due.is("emptied, whatever at", x.gap(-1, 31), 0);
        due.is("anew", x.gap(2, 4), 1);
        due.is("hedge", x.hedge(), 8);
    }

    private static WindingSquare gaps(int... gaps) {
        WindingSquare x = new WindingSquare();
        for (int i = 0; i + 1 < gaps.length; i += 2) {
            x.gap(gaps[i], gaps[i + 1]);
        }
        return x;
    }

    private static void hedge() {
        due.about("Promise 30", "HEDGE (none told: 0).");
        due.is("none told", gaps().hedge(), 0);
        due.about("Terms 4", "from 0 by one gap of each told row, row by row, to 0 behind the last: the fewest steps sideways");
        due.is("at 0", gaps(4, 0).hedge(), 0);
        due.is("at 1", gaps(4, 1).hedge(), 2);
        due.is("at 30", gaps(0, 30).hedge(), 60);
        due.is("the nearer of a row", gaps(0, 30, 0, 3).hedge(), 6);
        due.is("row by row, however told", gaps(7, 0, 0, 9, 3, 4).hedge(), 18);
        due.is("not each gap, but one of a row", gaps(0, 5, 0, 2, 3, 9).hedge(), 18);
        due.is("there and back and there", gaps(0, 30, 1, 0, 2, 30).hedge(), 120);
        due.is("all rows", gaps(0, 30, 1, 0, 2, 30, 3, 0, 4, 30, 5, 0, 6, 30, 7, 0).hedge(), 240);
        due.is("the nearer one is not the better one", gaps(0, 1, 0, 10, 1, 10, 2, 10).hedge(), 20);
        due.is("one that is near is dearer behind", gaps(0, 0, 1, 30, 1, 5, 2, 28).hedge(), 56);
    }
}
