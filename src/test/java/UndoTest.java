/** Promises 34 and 35, and what of look() tells of them: what is undone, what forgets, the image. */
public final class UndoTest {
    private static final Due due = new Due();

    public static void main(String[] args) {
        undone();
        sixAreKept();
        forgotten();
        notForgotten();
        image();
        imageOfTexts();
        bookOfTheImage();
        due.end();
    }

    private static WindingSquare made() {
        WindingSquare x = new WindingSquare();
        x.walker(4);
        x.walker(5);
        Due.tell(x, 2, "walker 0 ahead 3 left;");
        return x;
    }

    private static void undone() {
        WindingSquare x = made();
        due.is("nothing", x.undo(), false);
        x.comes(0, 0, 4);
        x.turn(0, 2);
        x.lay(5, 5, 1);
        due.is("three", x.look(11), 3);
        due.is("laying", x.undo(), true);
        due.is("cell", x.cell(5, 5, 0), 0);
        due.is("turning", x.undo(), true);
        due.is("turns", x.of(0, 5), 0);
        due.is("line gone", x.look(5), 1);
        due.is("coming", x.undo(), true);
        due.is("in", x.of(0, 1), 0);
        due.is("line gone", x.look(5), 0);
        due.is("no line", x.book(0, 0), -1);
        due.is("nothing", x.undo(), false);
        Due.tell(x, 1, "snow 4 1 to 4 11;");
        x.state(99);
        x.comes(0, 0, 4);
        x.minutes(1);
        int slipped = x.of(0, 10);
        int y = x.of(0, 3);
        int drawn = x.look(6);
        due.is("a draw", drawn, 99 * 1664525 + 1013904223);
        x.undo();
        due.is("state", x.look(6), 99);
        due.is("slipped", x.of(0, 10), 0);
        due.is("minute", x.look(2), 0);
        x.minutes(1);
        due.is("the same again", x.of(0, 10), slipped);
        due.is("the same again", x.of(0, 3), y);
        due.is("the same again", x.look(6), drawn);
    }

    private static void sixAreKept() {
        WindingSquare x = made();
        x.comes(0, 0, 4);
        x.minutes(9);
        due.is("six", x.look(11), 6);
        for (int i = 1; i <= 6; i++) {
            due.is("undo", x.undo(), true);
            due.is("minute", x.look(2), 9 - i);
        }
        due.is("no more", x.undo(), false);
        due.is("three steps of the way are gone", x.of(0, 3), 3);
        x.minutes(1);
        due.is("then left", x.of(0, 4), 3);
        x.undo();
        x.lay(0, 0, 1);
        x.undo();
        x.minutes(1);
        due.is("left again: the step is undone too", x.of(0, 4), 3);
        due.is("one can be undone", x.look(11), 1);
        for (int i = 0; i < 20; i++) {
            x.lay(8, 8, 1 + i % 2);
            x.lay(9, 9, 1 + i % 2);
            x.undo();
        }
        due.is("five: the sixth was undone", x.look(11), 5);
        due.is("cell", x.cell(8, 8, 0), 2);
        x.undo();
        due.is("cell", x.cell(8, 8, 0), 1);
    }

    private static void forgotten() {
        for (int k = 0; k < 6; k++) {
            WindingSquare x = made();
            x.image(true);
            x.comes(0, 0, 4);
            due.is("one", x.look(11), 1);
            switch (k) {
                case 0 -> x.state(0);
                case 1 -> x.walker(0);
                case 2 -> x.text(1);
                case 3 -> x.text(2);
                case 4 -> x.text(3);
                default -> x.image(false);
            }
            due.is("forgotten " + k, x.look(11), 0);
            due.is("forgotten " + k, x.undo(), false);
        }
    }

    private static void notForgotten() {
        WindingSquare x = made();
        x.comes(0, 0, 4);
        x.walker(10);
        x.walker(-1);
        x.comes(0, 0, 4);
        x.turn(1, 0);
        x.lay(4, 0, 1);
        x.minutes(0);
        x.image(false);
        x.image(true);
        Due.tell(x, 0, "pays 77;");
        Due.tell(x, 1, "pays 77;");
        Due.tell(x, 2, "pays 77;");
        Due.tell(x, 3, "pays 77;");
        x.feed(0, 0, 0, 0, 0);
        x.end(3);
        x.text(7);
        x.known(0, 1);
        x.known(0, -1);
        x.move(0);
        x.gap(0, 3);
        x.goes(60, 0);
        x.over(0);
        due.is("one yet", x.look(11), 1);
        due.is("undo", x.undo(), true);
        due.is("the law stays", x.of(0, 13), 77);
        due.is("moves stay", x.round(1), 1);
        due.is("gaps stay", x.hedge(), 6);
        due.is("in", x.look(1), 0);
        x.comes(0, 0, 4);
        for (int i = 0; i < 14; i++) {
            x.walker(1);
        }
        x.comes(1, 0, 5);
        due.is("the 17th is refused", x.walker(1), -1);
        due.is("and forgets nothing", x.look(11), 1);
    }

    private static void image() {
        WindingSquare x = made();
        due.is("none yet", x.image(false), false);
        x.comes(0, 0, 4);
        x.minutes(2);
        x.state(1234);
        x.known(0, 1);
        x.known(1, 0);
        x.move(0);
        x.gap(2, 7);
        x.lay(6, 6, 3);
        due.is("taken", x.image(true), true);
        due.is("the taking forgets nothing", x.look(11), 1);
        for (int i = 0; i < 2; i++) {
            x.lay(6, 6, 1);
            x.minutes(40);
            x.walker(1);
            x.comes(2, 1, 1);
            x.known(0, 2);
            x.known(1, -1);
            x.move(0);
            x.gap(-1, 0);
            x.state(5);
            x.feed(0, 0, 0, 0, 0);
            Due.tell(x, 0, "");
            due.fault(x, 0, "slips", 1, 5);
            x.feed(0, 0, 0, 0, 0);
            due.is("gone back", x.image(false), true);
            due.is("walkers", x.look(0), 2);
            due.is("those in", x.look(1), 1);
            due.is("minute", x.look(2), 2);
            due.is("paid", x.look(3), 0);
            due.is("lines", x.look(5), 1);
            due.is("state", x.look(6), 1234);
            due.is("undo", x.look(11), 0);
            due.is("undo", x.undo(), false);
            due.is("cell", x.cell(6, 6, 0), 3);
            due.is("y", x.of(0, 3), 2);
            due.is("known", x.one(0), 1);
            due.is("known", x.one(1), 2);
            due.is("move", x.round(1), 1);
            due.is("gap", x.hedge(), 14);
            due.is("the fault is not of the image", x.fault(0), 1);
            due.is("the tape is not of the image", x.end(20), true);
            due.is("the tape is not of the image", x.end(0), true);
            due.is("a new walker is new", x.walker(7), 2);
            due.is("a new walker is not in", x.of(2, 1), 0);
            due.is("a new walker is new", x.of(2, 8), 0);
            x.minutes(2);
            due.is("his step was kept", x.of(0, 5), 1);
            x.image(false);
        }
    }

    private static void imageOfTexts() {
        WindingSquare x = made();
        Due.tell(x, 0, "pays 31;");
        Due.tell(x, 1, "stone 1 1; snow 2 2;");
        Due.tell(x, 3, "from 0 watch 3; from 5 blind; from 6 blind;");
        x.image(true);
        for (int k = 0; k < 4; k++) {
            x.text(k);
            due.is("empty", x.look(7 + k), 0);
        }
        due.is("stones", x.look(4), 0);
        x.image(false);
        due.is("law", x.look(7), 1);
        due.is("stones", x.look(8), 2);
        due.is("ways", x.look(9), 1);
        due.is("watch", x.look(10), 3);
        due.is("stones", x.look(4), 1);
        due.is("pays", x.of(0, 13), 31);
        due.is("sees", x.of(0, 12), 600);
        x.comes(0, 0, 4);
        x.minutes(4);
        due.is("by his way", x.of(0, 4), 3);
    }

    /** Lines that are undone and written over behind the taking come back with the image. */
    private static void bookOfTheImage() {
        WindingSquare x = made();
        x.comes(0, 0, 4);
        x.turn(0, 0);
        x.comes(1, 0, 5);
        x.image(true);
        x.undo();
        x.undo();
        x.undo();
        x.comes(1, 2, 7);
        x.minutes(1);
        due.is("another line", x.book(0, 2), 1);
        x.image(false);
        due.is("lines", x.look(5), 3);
        due.is("line", x.book(0, 2), 0);
        due.is("line", x.book(0, 3), 4);
        due.is("line", x.book(1, 1), 1);
        due.is("line", x.book(2, 3), 5);
    }
}
