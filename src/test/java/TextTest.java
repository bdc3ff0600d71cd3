/** Promises 8 to 11: the tape, the texts, their faults, what the law tells. */
public final class TextTest {
    private static final Due due = new Due();

    public static void main(String[] args) {
        tape();
        lawFaults();
        lawTells();
        nesting();
        stones();
        ways();
        watch();
        lineLimits();
        keptAsItWas();
        due.end();
    }

    private static void tape() {
        WindingSquare x = new WindingSquare();
        due.is("end(0)", x.end(0), true);
        due.is("end(1)", x.end(1), false);
        due.is("end(-1)", x.end(-1), false);
        for (int i = 1; i <= 20; i++) {
            due.is("feed", x.feed(0, 0, 0, 0, 0), 20 * i);
        }
        due.is("feed beyond", x.feed(0, 0, 0, 0, 0), -1);
        due.is("it has 400", x.end(400), true);
        due.is("it has no more", x.end(401), false);
        due.is("end(381)", x.end(381), true);
        due.is("feed beyond", x.feed(0, 0, 0, 0, 0), -1);
        due.is("end(380)", x.end(380), true);
        due.is("feed", x.feed(0, 0, 0, 0, 0), 400);
        due.is("no such text", x.text(4), -1);
        due.is("no fault", x.fault(0), 0);
        due.is("empty then", x.end(1), false);
        x.feed(0x736c6970, 0x73202d20, 0, 0, 0);
        due.is("bytes, the highest first", x.text(0), -1);
        due.is("fault", x.fault(1), 6);
        due.is("no such text", x.text(-1), -1);
        due.is("fault() tells 0", x.fault(0), 0);
        due.is("fault() tells 0", x.fault(1), -1);
    }

    private static void lawFaults() {
        due.fault(0, "when", 1, 0);
        due.fault(0, "slips", 1, 5);
        due.fault(0, "slips  \n", 1, 8);
        due.fault(0, "slips ;", 1, 6);
        due.fault(0, "slips 1", 1, 7);
        due.fault(0, "slips 1 2;", 1, 8);
        due.fault(0, "slips 12345;", 1, 6);
        due.fault(0, "slips 00001;", 1, 6);
        due.fault(0, "Slips 1;", 1, 0);
        due.fault(0, "slipss 1;", 1, 0);
        due.fault(0, "slip 1;", 1, 0);
        due.fault(0, "slipsA 1;", 1, 0);
        due.fault(0, "slipsZ 1;", 1, 0);
        due.fault(0, "slipsz 1;", 1, 0);
        due.fault(0, "slips@1;", 1, 5);
        due.fault(0, "slips[1;", 1, 5);
        due.fault(0, "slips`1;", 1, 5);
        due.fault(0, "slips{1;", 1, 5);
        due.fault(0, "slips:1;", 1, 5);
        due.fault(0, "slips hastex;", 1, 6);
        due.fault(0, "slips 1 + ;", 1, 10);
        due.fault(0, "slips (1);", 1, 6);
        due.fault(0, "slips - 1;", 1, 6);
        due.fault(0, "slips 1 / haste;", 1, 10);
        due.fault(0, "slips 1 / 0;", 2, 10);
        due.fault(0, "slips 1/0000;", 2, 8);
        due.fault(0, "slips 1/2/0", 2, 10);
        due.fault(0, "slips 1 when;", 1, 12);
        due.fault(0, "slips 1 when 1;", 1, 14);
        due.fault(0, "slips 1 when 1 < ;", 1, 17);
        due.fault(0, "slips 1 when 1 < 2 < 3;", 1, 19);
        due.fault(0, "slips 1 when 1 < 2 and;", 1, 22);
        due.fault(0, "slips 1 when (1 < 2;", 1, 19);
        due.fault(0, "slips 1 when (1 < 2)) ;", 1, 20);
        due.fault(0, "slips 1 when (1 + 2) < 3;", 1, 19);
        due.fault(0, "slips 1 when not;", 1, 16);
        due.fault(0, "slips 1 when not 1;", 1, 18);
        due.fault(0, "slips 1 when or;", 1, 13);
        due.fault(0, "slips 1 , 2;", 1, 8);
        due.fault(0, "slips\t1;", 1, 5);
        due.fault(0, "slips\r1;", 1, 5);
        due.fault(0, "slips " + (char) 200 + "1;", 1, 6);
        due.fault(0, "slips " + (char) 0 + "1;", 1, 6);
        due.fault(0, "slips stone;", 1, 6);
        due.fault(0, "slips 1; ;", 1, 9);
        due.fault(0, "slips slips;", 1, 6);
    }

    private static void law(String text, int haste, int word, int want) {
        WindingSquare x = new WindingSquare();
        x.walker(haste);
        int lines = Due.tell(x, 0, text);
        due.is("lines of " + text, lines > 0, true);
        due.is("look(7)", x.look(7), lines);
        due.is(text, x.of(0, word), want);
    }

    private static void lawTells() {
        law("slips 7;", 3, 11, 7);
        law("slips7;sees8;pays9;", 3, 13, 9);
        law("pays 1 + 2 * 3;", 3, 13, 7);
        law("pays 90 - 2 - 3;", 3, 13, 85);
        law("pays 90 - 2 * 3 + 4;", 3, 13, 88);
        law("pays 9 / 2 * 2;", 3, 13, 8);
        law("pays 50 * haste / 7 + 1;", 3, 13, 22);
        law("pays 60 + x - 7 / 2;", 3, 13, 57);
        law("pays 60 + 0 * 3 - 5 * haste / 2;", 3, 13, 53);
        law("pays 50 - 100;", 3, 13, 0);
        law("pays 100;", 3, 13, 99);
        law("slips 1001;", 3, 11, 1000);
        law("sees 1000;", 3, 12, 1000);
        law("sees 0 - 1;", 3, 12, 0);
        law("slips 9999 * 9999 * 43;", 3, 11, 1000);
        law("slips 9999 * 9999 * 22;", 3, 11, 0);
        law("slips 500 + 0 / 3;", 3, 11, 500);
        law("pays 20 when haste = 3; pays 21;", 3, 13, 20);
        law("pays 20 when haste = 4; pays 21;", 3, 13, 21);
        law("pays 20 when haste > 3; sees 21;", 3, 13, 10);
        law("sees 20 when haste > 3; pays 21;", 3, 12, 0);
        law("slips 20 when haste > 3;", 3, 11, 60);
        law("pays 20 when not haste < 3;", 3, 13, 20);
        law("pays 20 when 1 = 1 or 1 = 2 and 1 = 3;", 3, 13, 20);
        law("pays 20 when 1 = 2 and 1 = 3 or 1 = 1;", 3, 13, 20);
        law("pays 20 when (1 = 1 or 1 = 2) and 1 = 3;", 3, 13, 10);
        law("pays 20 when 1 = 2 or 1 = 3 or 2 = 2 and 3 = 3;", 3, 13, 20);
        law("pays 20 when not 1 = 2 and not (1 = 1 and 1 = 2);", 3, 13, 20);
        law("pays 20 when not 1 = 1 or not not 1 = 2;", 3, 13, 10);
        law("pays 20 when not (1 = 2 or 2 = 2);", 3, 13, 10);
        law("pays 0 - 7 / 2 + 60;", 3, 13, 57);
        law("pays 60 + turns + signs + x + y + facing + snow + inside + watch + minute;", 3, 13, 60);
        WindingSquare x = new WindingSquare();
        x.walker(2);
        x.walker(2);
        Due.tell(x, 3, "from 1 watch 4;");
        x.lay(9, 11, 3);
        x.comes(0, 2, 9);
        x.comes(1, 3, 1);
        x.turn(0, 2);
        x.turn(0, 0);
        x.lay(9, 11, 2);
        x.minutes(1);
        x.lay(8, 11, 2);
        String[] words = {"haste", "turns", "signs", "x", "y", "facing", "snow", "inside", "watch", "minute"};
        int[] due0 = {2, 3, 3, 8, 11, 3, 1, 2, 4, 1};
        int[] due1 = {2, 0, 0, 10, 1, 3, 0, 2, 4, 1};
        for (int i = 0; i < words.length; i++) {
            Due.tell(x, 0, "pays " + words[i] + ";");
            due.is(words[i], x.of(0, 13), due0[i]);
            due.is(words[i], x.of(1, 13), due1[i]);
        }
        Due.tell(x, 0, "pays snow;");
        x.lay(8, 11, 3);
        due.is("no snow", x.of(0, 13), 0);
        Due.tell(x, 0, "slips 0 - 7 * haste / 2 + 9;");
        due.is("towards 0", x.of(0, 11), 2);
    }

    private static void nesting() {
        law("pays 5 when ((((((((1 = 1))))))));", 3, 13, 5);
        law("pays 5 when not not not not not not not not 1 = 1;", 3, 13, 5);
        law("pays 5 when not (not (not (not (1 = 1)))) ;", 3, 13, 5);
        law("pays 5 when (1=1) and (1=1) and (1=1) and (1=1) and (1=1) and (1=1) and (1=1) and (1=1) and (1=1);", 3, 13, 5);
        law("pays 5 when not 1=2 and not 1=2 and not 1=2 and not 1=2 and not 1=2 and not 1=2 and not 1=2 and not 1=2 and not 1=2;",
            3, 13, 5);
        due.fault(0, "pays 5 when (((((((((1 = 1)))))))));", 3, 20);
        due.fault(0, "pays 5 when not (not (not (not (not 1 = 1)))) ;", 3, 12 + 4 * 5);
        due.fault(0, "pays 5 when (((((((( not 1 = 1)))))))) ;", 3, 21);
        due.fault(0, "pays 5 when (((((((( or ", 1, 21);
        due.fault(0, "pays 5 when ((((((((1 = 1)))))))) and ((((((((( ", 3, 46);
    }

    private static void stones() {
        WindingSquare x = new WindingSquare();
        x.walker(0);
        x.walker(0);
        x.comes(0, 0, 3);
        x.comes(1, 0, 5);
        x.lay(11, 11, 3);
        due.is("stones", Due.tell(x, 1, "stone 4 6 to 2 3; snow 3 4;sign 3 5 to 4 5 ; bare 2 6;"), 4);
        due.is("look(8)", x.look(8), 4);
        due.is("stones", x.look(4), 12 - 4);
        due.is("cell", x.cell(2, 3, 0), 1);
        due.is("cell", x.cell(4, 6, 0), 1);
        due.is("cell", x.cell(3, 4, 0), 2);
        due.is("cell", x.cell(4, 5, 0), 3);
        due.is("cell", x.cell(2, 6, 0), 0);
        due.is("all other cells bare", x.cell(11, 11, 0), 0);
        due.is("one way lesser, the other greater", Due.tell(x, 1, "stone 2 6 to 4 5;"), 1);
        due.is("stones", x.look(4), 6);
        due.is("told where one stands", Due.tell(x, 1, "stone 3 0 to 5 0; bare 3 0;"), 2);
        due.is("those in", x.look(1), 1);
        due.is("no line of it", x.look(5), 2);
        due.is("empty", Due.tell(x, 1, "\n "), 0);
        due.is("stones", x.look(4), 0);
        due.fault(1, "stone 12 0;", 2, 6);
        due.fault(1, "stone 0 12;", 2, 8);
        due.fault(1, "stone 0 0 to 12 0;", 2, 13);
        due.fault(1, "stone 0 0 to 0 99;", 2, 15);
        due.fault(1, "stone 0 0 to 0;", 1, 14);
        due.fault(1, "stone 0 0 to", 1, 12);
        due.fault(1, "stone 0;", 1, 7);
        due.fault(1, "stone 0 0 0;", 1, 10);
        due.fault(1, "to 0 0;", 1, 0);
        due.fault(1, "stone 0 0", 1, 9);
        due.fault(1, "stone 0 + 0;", 1, 8);
        due.fault(1, "watch 0 0;", 1, 0);
    }

    private static void ways() {
        due.fault(2, "walker 2;", 2, 7);
        due.fault(2, "walker;", 1, 6);
        due.fault(2, "walker 0", 1, 8);
        due.fault(2, "walker 0 1;", 1, 9);
        due.fault(2, "walker 0 ahead;", 1, 14);
        due.fault(2, "walker 0 ahead 0;", 2, 15);
        due.fault(2, "walker 0 ahead 12;", 2, 15);
        due.fault(2, "walker 0 wait 0;", 2, 14);
        due.fault(2, "walker 0 wait 12;", 2, 14);
        due.fault(2, "walker 0 left 1;", 1, 14);
        due.fault(2, "walker 0 walker 1;", 1, 9);
        due.fault(2, "ahead 1;", 1, 0);
        due.fault(new WindingSquare(), 2, "walker 0;", 2, 7);
        WindingSquare x = new WindingSquare();
        x.walker(0);
        due.is("twelve words", Due.tell(x, 2,
            "walker 0 left left left left left left left left left left left ahead 11;"), 1);
        due.fault(x, 2, "walker 0 left left left left left left left left left left left left ahead;", 3, 69);
        due.fault(x, 2, "walker 0 left left left left left left left left left left left left 5;", 1, 69);
        due.is("it stays", x.look(9), 1);
        x.comes(0, 0, 5);
        x.minutes(11);
        due.is("turns by the way that stayed", x.of(0, 5), 11);
    }

    private static void watch() {
        due.fault(3, "from;", 1, 4);
        due.fault(3, "from 1000 blind;", 2, 5);
        due.fault(3, "from 1;", 1, 6);
        due.fault(3, "from 1 watch;", 1, 12);
        due.fault(3, "from 1 watch 0;", 2, 13);
        due.fault(3, "from 1 watch 10;", 2, 13);
        due.fault(3, "from 1 blind 1;", 1, 13);
        due.fault(3, "from 1 blind", 1, 12);
        due.fault(3, "watch 1;", 1, 0);
        WindingSquare x = new WindingSquare();
        due.is("watch", Due.tell(x, 3, "from 999 watch 9;from 0 blind;"), 2);
        due.is("look(10)", x.look(10), 2);
    }

    private static String many(String line, int n) {
        StringBuilder b = new StringBuilder();
        for (int i = 0; i < n; i++) {
            b.append(line);
        }
        return b.toString();
    }

    private static void lineLimits() {
        String[] lines = {"pays 3;", "snow 1 1;", "walker 1;", "from 1 blind;"};
        for (int k = 0; k < 4; k++) {
            WindingSquare x = new WindingSquare();
            x.walker(0);
            x.walker(0);
            due.is("sixteen", Due.tell(x, k, many(lines[k], 16)), 16);
            due.is("look", x.look(7 + k), 16);
            due.fault(x, k, many(lines[k], 17), 3, 16 * lines[k].length());
            due.fault(x, k, many(lines[k], 16) + "and", 1, 16 * lines[k].length());
            due.is("it stays", x.look(7 + k), 16);
        }
    }

    private static void keptAsItWas() {
        WindingSquare x = new WindingSquare();
        x.walker(0);
        Due.tell(x, 0, "pays 33;");
        Due.tell(x, 1, "stone 1 1;");
        Due.tell(x, 3, "from 0 watch 3;");
        due.fault(x, 0, "pays 44; pays", 1, 13);
        due.fault(x, 1, "stone 2 2; stone 3", 1, 18);
        due.fault(x, 3, "from 0 watch 4; from", 1, 20);
        due.is("pays", x.of(0, 13), 33);
        due.is("cell", x.cell(1, 1, 0), 1);
        due.is("cell", x.cell(2, 2, 0), 0);
        due.is("sees", x.of(0, 12), 600);
        due.is("fault", x.fault(0), 1);
        Due.tell(x, 0, "");
        due.is("no fault", x.fault(0), 0);
        due.is("no fault", x.fault(1), -1);
        due.is("pays", x.of(0, 13), 10);
    }
}
