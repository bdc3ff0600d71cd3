/** The edges of promises 8 to 11 and of the terms 2: the tape, the texts, each fault and its place, what is held. */
public final class EdgeTextTest {
    private static final Due due = new Due();
    private static final String[] LINES = {"pays 3;", "snow 1 1;", "walker 1;", "from 1 blind;"};

    public static void main(String[] args) {
        feedBytes();
        feedBounds();
        endBounds();
        textNumbers();
        textEmpties();
        emptyTexts();
        staysAsItWas();
        stonesOnWalkers();
        faultWhats();
        tokens();
        numbers();
        keywords();
        ends();
        endsTooSoon();
        partByZero();
        bounds();
        walkersThatAreNot();
        lineLimits();
        wordLimits();
        openLimits();
        firstByPlace();
        leastAtOnePlace();
        areas();
        areasOver();
        waysTold();
        waysOfSeveralLines();
        watchLines();
        firstLineThatIsSo();
        withoutLines();
        held();
        wrapping();
        factsNotIn();
        due.end();
    }

    private static WindingSquare made() {
        WindingSquare x = new WindingSquare();
        x.walker(3);
        x.walker(5);
        return x;
    }

    private static String many(String line, int n) {
        return line.repeat(n);
    }

    private static int word(int[] bytes, int from) {
        return bytes[from] << 24 | bytes[from + 1] << 16 | bytes[from + 2] << 8 | bytes[from + 3];
    }

    private static int feed(WindingSquare x, int[] bytes) {
        return x.feed(word(bytes, 0), word(bytes, 4), word(bytes, 8), word(bytes, 12), word(bytes, 16));
    }

    private static void feedBytes() {
        due.about("Promise 8", "Twenty bytes come behind the TAPE, of each number the highest first: how many it has.");
        WindingSquare x = made();
        int[] bytes = new int[20];
        for (int i = 0; i < 20; i++) {
            bytes[i] = "stone 11 10 to 9 8;\n".charAt(i);
        }
        due.is("feed", feed(x, bytes), 20);
        due.is("all twenty are read", x.text(1), 1);
        due.is("stones", x.look(4), 9);
        for (int odd : new int[] {0, 127, 128, 255}) {
            for (int i = 0; i < 20; i++) {
                java.util.Arrays.fill(bytes, ' ');
                due.is("blanks", feed(x, bytes), 20);
                bytes[i] = odd;
                due.is("behind them", feed(x, bytes), 40);
                due.is("a byte that is no token", x.text(0), -1);
                due.is("its place", x.fault(1), 20 + i);
            }
        }
    }

    private static void feedBounds() {
        due.about("Promise 8", "NONE, and nothing comes, if there would be more than 400.");
        WindingSquare x = made();
        for (int i = 1; i <= 20; i++) {
            due.is("feed", x.feed(0x20202020, 0x20202020, 0x20202020, 0x20202020, 0x20202020), 20 * i);
        }
        due.is("beyond 400", x.feed(0, 0, 0, 0, 0), -1);
        due.is("400 yet", Snap.tape(x), 400);
        due.is("nothing came: blanks alone", x.text(0), 0);
        for (int n = 379; n <= 382; n++) {
            x = made();
            for (int i = 1; i <= 20; i++) {
                x.feed(0x20202020, 0x20202020, 0x20202020, 0x20202020, 0x20202020);
            }
            x.end(n);
            due.is("behind " + n, x.feed(0, 0, 0, 0, 0), n <= 380 ? n + 20 : -1);
            due.is("the tape", Snap.tape(x), n <= 380 ? n + 20 : n);
            due.is("whether a byte came", x.text(0), n <= 380 ? -1 : 0);
            due.is("where it lies", x.fault(1), n <= 380 ? n : -1);
        }
        due.is("a text of 400", tellFull(), 16);
        for (String token : new String[] {";", "x", "7", "(", "!", " ", "p"}) {
            for (int k = 0; k < 4; k++) {
                boolean blank = token.equals(" ");
                WindingSquare full = made();
                due.is("400 times '" + token + "'", Due.tell(full, k, many(token, 400)), blank ? 0 : -1);
                due.is("place", full.fault(1), blank ? -1 : 0);
            }
        }
        String ends = many("pays 3;", 5) + many(" ", 362);
        due.fault(0, ends + "pay", 1, 397);
        due.fault(0, many(" ", 396) + "pays", 1, 400);
        due.fault(0, many(" ", 391) + "pays 1234", 1, 400);
        due.fault(0, many(" ", 390) + "pays 12345", 1, 395);
        due.is("a sum of 400", Due.tell(made(), 0, "pays 1" + many("+1", 196) + " ;"), 1);
        due.is("tokens of one byte each", Due.tell(made(), 0, "pays x" + many("*x", 196) + "\n;"), 1);
    }

    private static int tellFull() {
        WindingSquare x = made();
        String text = many("snow 1 1 to 2 2;", 15) + "stone 3 3;";
        return Due.tell(x, 1, text + many(" ", 399 - text.length()) + "\n");
    }

    private static void endBounds() {
        due.about("Promise 9", "The TAPE has its first n bytes alone: true");
        WindingSquare x = made();
        Due.tape(x, "pays 3; pays 4;");
        due.is("as many as it has", x.end(15), true);
        due.is("fewer", x.end(7), true);
        due.is("the first alone", x.text(0), 1);
        due.is("pays", x.of(0, 13), 3);
        Due.tape(x, "pays 3;");
        due.is("none", x.end(0), true);
        due.is("no byte", Snap.tape(x), 0);
        due.is("an empty text", x.text(0), 0);
        due.about("Promise 9", "false, changing nothing, if it has not so many, or n is below 0");
        Due.tape(x, "pays 7;");
        due.is("one more than it has", x.end(8), false);
        due.is("400", x.end(400), false);
        due.is("below 0", x.end(-1), false);
        due.is("the least", x.end(Integer.MIN_VALUE), false);
        due.is("the greatest", x.end(Integer.MAX_VALUE), false);
        due.is("seven yet", Snap.tape(x), 7);
        due.is("as it was", x.text(0), 1);
        due.is("pays", x.of(0, 13), 7);
        due.about("Promise 9", "its first n bytes alone");
        Due.tape(x, "paysx");
        x.end(4);
        due.is("what was cut off is no part of a word", x.text(0) == -1 ? x.fault(1) : -9, 4);
        Due.tape(x, "pays 12345");
        x.end(9);
        due.is("what was cut off is no part of a number", x.text(0) == -1 ? x.fault(1) : -9, 9);
        Due.tape(x, "pays 3; pays 4;");
        x.end(7);
        x.feed(0x20202020, 0x20202020, 0x20202020, 0x20202020, 0x20202020);
        due.is("what comes then is behind the cut", x.text(0), 1);
        due.about("Promise 9", "if it has not so many, or n is below 0");
        due.is("an empty one has not one", x.end(1), false);
        due.is("an empty one has none", x.end(0), true);
        due.is("an empty one, below 0", x.end(-1), false);
    }

    private static void textNumbers() {
        due.about("Promise 10", "NONE: no such one (fault() tells 0)");
        for (int k : new int[] {-1, 4, 5, 256, Integer.MIN_VALUE, Integer.MAX_VALUE}) {
            WindingSquare x = made();
            due.fault(x, 0, "pays", 1, 4);
            String before = Snap.of(x);
            Due.tape(x, "pays 1;");
            due.is("text " + k, x.text(k), -1);
            due.is("fault(0)", x.fault(0), 0);
            due.is("fault(1)", x.fault(1), -1);
            due.is("empty then", Snap.tape(x), 0);
            due.same("nothing else", Snap.of(x), before);
        }
        due.about("Promise 10", "is TEXT k: how many lines");
        for (int k = 0; k < 4; k++) {
            for (int n = 0; n <= 16; n++) {
                WindingSquare x = made();
                due.is("lines", Due.tell(x, k, many(LINES[k], n)), n);
                for (int other = 0; other < 4; other++) {
                    due.is("look " + other, x.look(7 + other), other == k ? n : 0);
                }
            }
        }
    }

    private static void textEmpties() {
        due.about("Promise 10", "The TAPE, empty then (whatever k, with a FAULT too)");
        for (int k = -2; k <= 6; k++) {
            WindingSquare x = made();
            Due.tape(x, k >= 0 && k < 4 ? LINES[k] : "pays 3;");
            x.text(k);
            due.is("good", Snap.tape(x), 0);
            Due.tape(x, "(");
            due.is("with a fault", x.text(k), -1);
            due.is("with a fault", Snap.tape(x), 0);
        }
    }

    private static void emptyTexts() {
        due.about("Terms 2", "THE LAW = {(slips | sees | pays) E [when B] ;}");
        String[] empties = {"", " ", "\n", "  \n\n ", many(" ", 400)};
        for (int k = 0; k < 4; k++) {
            for (String empty : empties) {
                WindingSquare x = made();
                Due.good(x, k, LINES[k]);
                due.is("an empty text " + k, Due.tell(x, k, empty), 0);
                due.is("no lines", x.look(7 + k), 0);
                due.is("no fault", x.fault(0), 0);
                due.is("no place", x.fault(1), -1);
            }
        }
        WindingSquare x = made();
        Due.good(x, 0, "pays 3;");
        Due.good(x, 1, "stone 1 1;");
        Due.good(x, 2, "walker 0 wait 11;");
        Due.good(x, 3, "from 0 watch 1;");
        for (int k = 0; k < 4; k++) {
            due.is("emptied", x.text(k), 0);
        }
        x.comes(0, 0, 4);
        x.minutes(1);
        due.is("no law", x.of(0, 13), 10);
        due.is("no stone", x.look(4), 0);
        due.is("no way", x.of(0, 3), 1);
        due.is("no watch", x.of(0, 12), 0);
    }

    private static void staysAsItWas() {
        due.about("Promise 10", "or a FAULT (it stays as it was)");
        String[] first = {"pays 33 when haste = 3; pays 44;", "stone 1 1; snow 4 1;", "walker 0 wait 2 left;",
            "from 0 watch 3; from 3 blind;"};
        String[] bad = {"pays 1; slips 2; sees 3 +", "stone 2 2 to 11 11; bare 12 0;", "walker 0 back; walker 1 back; left",
            "from 0 watch 9; from 0 watch 10;"};
        for (int k = 0; k < 4; k++) {
            WindingSquare x = made();
            WindingSquare twin = made();
            for (int i = 0; i < 4; i++) {
                Due.good(x, i, first[i]);
                Due.good(twin, i, first[i]);
            }
            for (WindingSquare one : new WindingSquare[] {x, twin}) {
                one.comes(0, 0, 4);
                one.comes(1, 0, 7);
                one.minutes(1);
            }
            due.is("a fault", Due.tell(x, k, bad[k]), -1);
            for (int i = 0; i < 5; i++) {
                due.same("minute " + i, Snap.of(x), Snap.of(twin));
                due.is("minutes", x.minutes(1), twin.minutes(1));
            }
        }
    }

    private static void stonesOnWalkers() {
        due.about("Promise 10", "STONES told where WALKERS stand: these are not IN any more.");
        WindingSquare x = new WindingSquare();
        for (int i = 0; i < 5; i++) {
            x.walker(i);
            x.comes(i, 0, i);
        }
        x.turn(1, 0);
        int lines = x.look(5);
        due.is("stones", Due.tell(x, 1, "stone 1 0; snow 2 0; sign 3 0; bare 4 0;"), 4);
        due.is("only who stands on the stone", x.look(1), 0b11101);
        due.is("no line", x.look(5), lines);
        due.is("not crossed", x.of(1, 8), 0);
        due.is("nothing paid", x.look(3), 0);
        due.is("nobody stands there", x.cell(1, 0, 1), -1);
        for (int what = 2; what <= 7; what++) {
            due.is("not in: of " + what, x.of(1, what), -1);
        }
        due.is("taken away by a later line", Due.tell(x, 1, "stone 0 0 to 11 11; snow 2 0 to 4 0; bare 0 0;"), 3);
        due.is("all yet", x.look(1), 0b11101);
        due.is("all of stone", Due.tell(x, 1, "stone 11 11 to 0 0;"), 1);
        due.is("nobody", x.look(1), 0);
        due.is("stones", x.look(4), 144);
        due.is("who is not in can't come", x.comes(0, 0, 0), false);
        Due.good(x, 1, "");
        due.is("they are not in again", x.look(1), 0);
        due.is("but may come", x.comes(1, 0, 1), true);
    }

    private static void faultWhats() {
        due.about("Promise 11", "Of the latest text() what 0 the FAULT (0 without one), 1 its place (NONE).");
        WindingSquare x = made();
        due.is("before any", x.fault(0), 0);
        due.is("before any", x.fault(1), -1);
        due.fault(x, 1, "stone 12 0;", 2, 6);
        x.feed(0, 0, 0, 0, 0);
        x.end(0);
        x.minutes(1);
        due.is("of the latest yet", x.fault(0), 2);
        due.is("of the latest yet", x.fault(1), 6);
        due.is("asked again", x.fault(0), 2);
        due.is("good", x.text(1), 0);
        due.is("without one", x.fault(0), 0);
        due.is("without one", x.fault(1), -1);
        due.about("Promise 11", "NONE for another what.");
        due.fault(x, 1, "stone 12 0;", 2, 6);
        for (int what : new int[] {-1, 2, 3, Integer.MIN_VALUE, Integer.MAX_VALUE}) {
            due.is("fault " + what, x.fault(what), -1);
        }
    }

    private static void tokens() {
        due.about("Terms 2", "Blanks (32, 10) between.");
        for (int c = 0; c < 256; c++) {
            WindingSquare x = made();
            boolean blank = c == 32 || c == 10;
            due.is("byte " + c + " alone", Due.tell(x, 0, "" + (char) c), blank ? 0 : -1);
            due.is("fault", x.fault(0), blank ? 0 : 1);
            due.is("place", x.fault(1), blank ? -1 : 0);
            due.is("byte " + c + " before ;", Due.tell(x, 0, "pays 3" + (char) c + ";"), blank || c >= 48 && c <= 57 ? 1 : -1);
        }
        due.is("none between", Due.tell(made(), 0, "pays3when(x<4);slips5;"), 2);
        due.is("many between", Due.tell(made(), 0, " \n pays\n\n3 \n when  x\n<\n4 ; \n "), 1);
        due.fault(0, "pa ys 3;", 1, 0);
        due.fault(0, "pays 3 3;", 1, 7);
        due.fault(0, "pays 1\n2;", 1, 7);
        due.about("Terms 2", "; + - * / ( ) < = >");
        for (String sign : new String[] {";", "+", "-", "*", "/", "(", ")", "<", "=", ">"}) {
            due.fault(0, "pays " + sign, 1, 5);
            due.fault(1, "snow 1 " + sign, 1, 7);
            due.fault(2, "walker 1 wait " + sign, 1, 14);
            due.fault(3, "from 1 watch " + sign, 1, 13);
        }
    }

    private static void numbers() {
        due.about("Terms 2", "digits as many as stand together NUMBERS of 1 to 4 digits or none");
        int[] due4 = {7, 77, 777, 1000};
        String[] told = {"7", "77", "777", "7777"};
        for (int i = 0; i < 4; i++) {
            WindingSquare x = made();
            Due.good(x, 0, "slips " + told[i] + ";");
            due.is("slips " + told[i], x.of(0, 11), due4[i]);
        }
        WindingSquare x = made();
        Due.good(x, 0, "slips 0007; sees 9999 - 9990; pays 0000;");
        due.is("leading noughts", x.of(0, 11), 7);
        due.is("9999", x.of(0, 12), 9);
        due.is("0000", x.of(0, 13), 0);
        due.fault(0, "slips 00000;", 1, 6);
        due.fault(0, "slips 00007;", 1, 6);
        due.fault(0, "slips 10000;", 1, 6);
        due.fault(0, "slips 99999999999999999999;", 1, 6);
        due.fault(0, "slips 1 / 00000;", 1, 10);
        due.fault(1, "snow 00001 1;", 1, 5);
        due.is("snow 0011 0000", Due.tell(made(), 1, "snow 0011 0000 to 0000 0011;"), 1);
        due.fault(1, "snow 0012 1;", 2, 5);
        due.fault(2, "walker 00001;", 1, 7);
        due.is("walker 0001", Due.tell(made(), 2, "walker 0001 ahead 0011;"), 1);
        due.fault(3, "from 00001 blind;", 1, 5);
        due.is("from 0999", Due.tell(made(), 3, "from 0999 watch 0009;"), 1);
        due.fault(3, "from 9999 blind;", 2, 5);
        due.fault(0, "pays - 1;", 1, 5);
        due.fault(1, "snow -1 1;", 1, 5);
    }

    private static void keywords() {
        due.about("Terms 2", "letters (a .. z, A .. Z) as many as stand together are KEYWORDS (those told here for that text)"
            + " or none");
        String[] words = {"slips", "sees", "pays", "when", "or", "and", "not", "haste", "turns", "signs", "x", "y", "facing",
            "snow", "inside", "watch", "minute", "stone", "sign", "bare", "to", "walker", "ahead", "left", "right", "back",
            "wait", "from", "blind", "a", "z", "A", "Z", "X", "xx", "xy", "sno", "snowy", "Snow", "snoW"};
        String units = " haste turns signs x y facing snow inside watch minute ";
        String[] firsts = {" slips sees pays ", " stone snow sign bare ", " walker ", " from "};
        for (String word : words) {
            for (int k = 0; k < 4; k++) {
                WindingSquare x = made();
                boolean first = firsts[k].contains(" " + word + " ");
                due.is(word + " first in text " + k, Due.tell(x, k, word), -1);
                due.is("place", x.fault(1), first ? word.length() : 0);
            }
            WindingSquare x = made();
            boolean unit = units.contains(" " + word + " ");
            due.is("pays " + word, Due.tell(x, 0, "pays " + word + ";"), unit ? 1 : -1);
            due.is("place", x.fault(1), unit ? -1 : 5);
        }
        for (char c = 'A'; c <= 'z'; c++) {
            boolean letter = c <= 'Z' || c >= 'a';
            due.fault(0, "pays" + c + " 3;", 1, letter ? 0 : 4);
            due.fault(0, c + "pays 3;", 1, 0);
            due.fault(3, "from 1 watch" + c + " 3;", 1, letter ? 7 : 12);
        }
        due.fault(0, "paysx 3;", 1, 0);
        due.fault(0, "Pays 3;", 1, 0);
        due.fault(0, "pay 3;", 1, 0);
        due.fault(0, "pays 3 whenx < 4;", 1, 7);
        due.fault(0, "pays xy;", 1, 5);
        due.is("digits end a word", Due.tell(made(), 0, "pays3;"), 1);
    }

    /** Whatever is cut off behind a token lacks what must come. */
    private static void ends() {
        due.about("Terms 2", "1 what can't stand there (the end: the text's length)");
        String[][] whole = {
            {"pays", "3", "+", "x", "*", "2", "/", "4", "when", "not", "(", "x", "<", "3", "or", "y", "=", "2", ")", "and", "1",
                ">", "0", ";"},
            {"stone", "1", "2", "to", "3", "4", ";"},
            {"walker", "1", "ahead", "3", "left", "wait", "2", "right", "back", ";"},
            {"from", "1", "watch", "2", ";"},
            {"from", "1", "blind", ";"}};
        for (int i = 0; i < whole.length; i++) {
            int k = Math.min(i, 3);
            StringBuilder text = new StringBuilder();
            for (int n = 0; n < whole[i].length - 1; n++) {
                text.append(n == 0 ? "" : " ").append(whole[i][n]);
                due.fault(k, text.toString(), 1, text.length());
                due.fault(k, text + " ", 1, text.length() + 1);
                due.fault(k, text + " \n ", 1, text.length() + 3);
                due.fault(k, LINES[k] + text, 1, LINES[k].length() + text.length());
                due.fault(k, text + many(" ", 400 - text.length()), 1, 400);
            }
            text.append(" ;");
            due.is("whole", Due.tell(made(), k, text.toString()), 1);
            due.is("whole, twice", Due.tell(made(), k, text.toString() + text), 2);
            due.fault(k, text + ";", 1, text.length());
        }
    }

    /** A line may not end there. */
    private static void endsTooSoon() {
        due.about("Terms 2", "1 what can't stand there");
        String[][] begun = {
            {"pays", "pays 3 +", "pays 3 -", "pays 3 *", "pays 3 /", "pays 3 when", "pays 3 when not", "pays 3 when (",
                "pays 3 when x", "pays 3 when x <", "pays 3 when (x < 3", "pays 3 when x < 3 or", "pays 3 when x < 3 and"},
            {"snow", "snow 1", "snow 1 1 to", "snow 1 1 to 2"},
            {"walker", "walker 1 ahead", "walker 1 wait", "walker 1 left wait"},
            {"from", "from 1", "from 1 watch"}};
        for (int k = 0; k < 4; k++) {
            for (String b : begun[k]) {
                due.fault(k, b + " ;", 1, b.length() + 1);
                due.fault(k, b + ";" + LINES[k], 1, b.length());
            }
        }
    }

    private static void partByZero() {
        due.about("Terms 2", "2 (at the NUMBER) a part by 0");
        due.fault(0, "pays 1 / 0;", 2, 9);
        due.fault(0, "pays 1/0", 2, 7);
        due.fault(0, "pays 1 / 00;", 2, 9);
        due.fault(0, "pays 1 / 0000;", 2, 9);
        due.fault(0, "pays 0 / 0;", 2, 9);
        due.fault(0, "pays 1 / 1 / 0;", 2, 13);
        due.fault(0, "pays 1 when x / 0 < 1;", 2, 16);
        due.fault(0, "pays 1 when 1 < y / 0;", 2, 20);
        due.is("by 1", Due.tell(made(), 0, "pays 1 / 1;"), 1);
        due.is("by 1 it is itself", slips("7 / 1"), 7);
        due.is("by itself it is 1", slips("9999 / 9999"), 1);
        due.is("by one more it is 0", slips("9998 / 9999"), 0);
        due.is("by 9999", Due.tell(made(), 0, "pays 1 / 9999;"), 1);
        due.is("0 by 1", Due.tell(made(), 0, "pays 0 / 1;"), 1);
        due.is("by 0001", Due.tell(made(), 0, "pays 0 / 0001;"), 1);
        due.is("times 0", Due.tell(made(), 0, "pays 1 * 0;"), 1);
    }

    private static void bounds() {
        due.about("Terms 2", "(X, Y 0 .. 11");
        for (int i = 0; i < 4; i++) {
            String before = new String[] {"snow ", "snow 3 ", "snow 3 3 to ", "snow 3 3 to 3 "}[i];
            String behind = i % 2 == 0 ? " 3;" : ";";
            due.is("0", Due.tell(made(), 1, before + "0" + behind), 1);
            due.is("11", Due.tell(made(), 1, before + "11" + behind), 1);
            due.fault(1, before + "12" + behind, 2, before.length());
            due.fault(1, before + "9999" + behind, 2, before.length());
        }
        due.about("Terms 2", "(N 1 .. 11; up to 12 words");
        for (String word : new String[] {"ahead", "wait"}) {
            String before = "walker 0 " + word + " ";
            due.is("1", Due.tell(made(), 2, before + "1;"), 1);
            due.is("11", Due.tell(made(), 2, before + "11;"), 1);
            due.fault(2, before + "0;", 2, before.length());
            due.fault(2, before + "12;", 2, before.length());
            due.fault(2, before + "9999;", 2, before.length());
        }
        due.about("Terms 2", "(MINUTE 0 .. 999, N 1 .. 9.)");
        due.is("0", Due.tell(made(), 3, "from 0 blind;"), 1);
        due.is("999", Due.tell(made(), 3, "from 999 blind;"), 1);
        due.fault(3, "from 1000 blind;", 2, 5);
        due.is("watch 1", Due.tell(made(), 3, "from 0 watch 1;"), 1);
        due.is("watch 9", Due.tell(made(), 3, "from 0 watch 9;"), 1);
        due.fault(3, "from 0 watch 0;", 2, 13);
        due.fault(3, "from 0 watch 10;", 2, 13);
    }

    private static void walkersThatAreNot() {
        due.about("Terms 2", "a WALKER that there is not");
        WindingSquare x = new WindingSquare();
        due.fault(x, 2, "walker 0;", 2, 7);
        for (int n = 1; n <= 16; n++) {
            x.walker(0);
            due.is("the last", Due.tell(x, 2, "walker " + (n - 1) + ";"), 1);
            due.is("the first", Due.tell(x, 2, "walker 0;"), 1);
            due.fault(x, 2, "walker " + n + ";", 2, 7);
            due.fault(x, 2, "walker 9999;", 2, 7);
        }
    }

    private static void lineLimits() {
        due.about("Terms 2", "16 lines of each at most.");
        for (int k = 0; k < 4; k++) {
            due.is("sixteen", Due.tell(made(), k, many(LINES[k], 16)), 16);
            due.is("seventeen", Due.tell(made(), k, many(LINES[k], 17)), -1);
        }
        due.about("Terms 2", "3 (at its KEYWORD) the 17th line of a text");
        for (int k = 0; k < 4; k++) {
            WindingSquare x = made();
            Due.good(x, k, many(LINES[k], 16));
            due.fault(x, k, many(LINES[k], 17), 3, 16 * LINES[k].length());
            due.fault(x, k, many(LINES[k], 18), 3, 16 * LINES[k].length());
            due.is("sixteen yet", x.look(7 + k), 16);
            String word = LINES[k].substring(0, 4);
            due.fault(x, k, many(LINES[k], 16) + "  " + (k == 2 ? "walker" : word), 3, 16 * LINES[k].length() + 2);
            due.is("sixteen and blanks", Due.tell(x, k, many(LINES[k], 16) + " \n"), 16);
            due.is("fifteen", Due.tell(x, k, many(LINES[k], 15)), 15);
        }
        due.fault(0, many("pays 3;", 16) + "sees 1;", 3, 112);
    }

    private static void wordLimits() {
        due.about("Terms 2", "the 13th word of a WAY");
        String[] words = {"left ", "right ", "back ", "ahead 1 ", "wait 1 "};
        for (String word : words) {
            for (String last : words) {
                String way = "walker 1 " + many(word, 12);
                WindingSquare x = made();
                due.is("twelve", Due.tell(x, 2, way + ";"), 1);
                due.is("twelve", Due.tell(x, 2, "walker 1 " + many(word, 11) + last + ";"), 1);
                due.fault(x, 2, way + last + ";", 3, way.length());
                due.fault(x, 2, way + last.trim(), 3, way.length());
            }
        }
        due.is("twelve of each line", Due.tell(made(), 2, "walker 1 " + many("left ", 12) + "; walker 1 " + many("left ", 12)
            + "; walker 0 " + many("back ", 12) + ";"), 3);
    }

    private static void openLimits() {
        due.about("Terms 2", "(at it) the 9th ( or not that is open");
        for (int nots = 0; nots <= 9; nots++) {
            String opened = "pays 5 when " + many("not ", nots) + many("( ", 9 - nots);
            int place = nots == 9 ? 12 + 32 : opened.length() - 2;
            due.fault(0, opened + "1 = 1", 3, place);
            due.fault(0, opened, 3, place);
            String turned = "pays 5 when " + many("( ", 9 - nots) + many("not ", nots);
            due.fault(0, turned + "1 = 1", 3, turned.length() - (nots == 0 ? 2 : 4));
            int kept = Math.max(0, 8 - nots);
            String eight = "pays 5 when " + many("not ", 8 - kept) + many("( ", kept) + "1 = 1" + many(")", kept) + ";";
            due.is("eight are open", Due.tell(made(), 0, eight), 1);
        }
        String eight = "(((((((( 1 = 1 ))))))))";
        due.is("eight and eight", Due.tell(made(), 0, "pays 5 when " + eight + " and " + eight + " or " + eight + ";"), 1);
        due.fault(0, "pays 5 when " + eight + " and (((((((( not 1 = 1", 3, 12 + 23 + 5 + 9);
        due.is("a not is closed behind its C", Due.tell(made(), 0, "pays 5 when " + many("not 1 = 2 and ", 20) + "1 = 1;"), 1);
        due.is("seven and a not", Due.tell(made(), 0, "pays 5 when ((((((( not 1 = 2 and not 1 = 3 )))))));"), 1);
        due.fault(0, "pays 5 when ((((((( not 1 = 2 and not ( 1 = 3", 3, 38);
        WindingSquare x = made();
        Due.good(x, 0, "pays 5 when not not not not not not not not 1 = 2; pays 6;");
        due.is("eight nots", x.of(0, 13), 6);
        Due.good(x, 0, "pays 5 when not not not not not not not 1 = 2; pays 6;");
        due.is("seven nots", x.of(0, 13), 5);
        Due.good(x, 0, "pays 5 when not not not not not not not not 1 = 1; pays 6;");
        due.is("eight nots of what is so", x.of(0, 13), 5);
        for (String so : new String[] {"1 = 1", "1 < 2", "2 > 1", "( 1 = 1 )", "1 = 2 or 1 = 1", "1 = 1 and 2 = 2"}) {
            Due.good(x, 0, "pays 5 when not (" + so + "); pays 6;");
            due.is("not " + so, x.of(0, 13), 6);
            Due.good(x, 0, "pays 5 when " + so + "; pays 6;");
            due.is(so, x.of(0, 13), 5);
        }
        Due.good(x, 0, "pays 5 when not 1 = 2 and 1 = 2; pays 6;");
        due.is("a not is of its C alone", x.of(0, 13), 6);
        Due.good(x, 0, "pays 5 when not 1 = 1 or 1 = 1; pays 6;");
        due.is("a not is of its C alone", x.of(0, 13), 5);
        for (String no : new String[] {"1 = 1 and ( 1 = 2 )", "( 1 = 2 ) and 1 = 1", "1 = 2 or ( 1 = 1 and 1 = 2 )",
            "( 1 = 1 or 1 = 1 ) and ( 1 = 2 or 1 = 3 )"}) {
            Due.good(x, 0, "pays 5 when " + no + "; pays 6;");
            due.is(no, x.of(0, 13), 6);
        }
    }

    private static void firstByPlace() {
        due.about("Terms 2", "FAULTS, the first by its place");
        due.fault(0, "pays 1 / 0 + ;", 2, 9);
        due.fault(0, "pays + 1 / 0;", 1, 5);
        due.fault(0, "pays 1 when ((((((((( 1 / 0", 3, 20);
        due.fault(0, "pays 1 / 0 when (((((((((", 2, 9);
        due.fault(1, "snow 12 12;", 2, 5);
        due.fault(1, "snow 1 12 to ;", 2, 7);
        due.fault(1, "snow 1 , 12;", 1, 7);
        due.fault(1, many("snow 1 1;", 15) + "snow 1 12; snow 1 1; snow 1 1;", 2, 15 * 9 + 7);
        due.fault(1, many("snow 1 1;", 16) + "snow 1 12;", 3, 16 * 9);
        due.fault(2, "walker 2 ahead 12;", 2, 7);
        due.fault(2, "walker 1 ahead 12 " + many("left ", 12), 2, 15);
        due.fault(2, "walker 1 " + many("left ", 12) + "ahead 12", 3, 69);
        due.fault(3, "from 1000 watch 10", 2, 5);
        due.fault(3, "from , 1000", 1, 5);
        due.fault(0, "pays 3; ! pays 1 / 0;", 1, 8);
    }

    private static void leastAtOnePlace() {
        due.about("Terms 2", "at one place the least");
        String[] others = {"when", "to", "left", "watch", ";", "7", "12345", "!", "(", "stone"};
        for (int k = 0; k < 4; k++) {
            for (String other : others) {
                if (!(k == 1 && other.equals("stone"))) {
                    due.fault(k, many(LINES[k], 16) + other, 1, 16 * LINES[k].length());
                }
            }
        }
        for (String other : new String[] {"walker", "to", "7", "12345", "!", "(", "forward"}) {
            due.fault(2, "walker 1 " + many("left ", 12) + other, 1, 69);
        }
        due.fault(0, "pays 1 when (((((((( 1 < (", 1, 25);
        due.fault(0, "pays 1 when (((((((( 1 < not", 1, 25);
        due.fault(0, "pays 1 when (((((((( )", 1, 21);
        due.fault(0, "pays 1 when (((((((( and", 1, 21);
        due.fault(2, "walker 00002;", 1, 7);
        due.fault(1, "snow 00012 1;", 1, 5);
        due.fault(0, "pays 1 / 00000;", 1, 9);
    }

    private static void areas() {
        due.about("Terms 2", "to: all from the lesser to the greater both ways");
        int[][] ends = {{2, 3, 5, 7}, {5, 3, 2, 7}, {2, 7, 5, 3}, {5, 7, 2, 3}, {4, 4, 4, 4}, {0, 0, 11, 11}, {11, 0, 0, 0},
            {0, 11, 0, 0}, {11, 11, 11, 11}, {3, 9, 9, 3}};
        for (int[] e : ends) {
            WindingSquare x = made();
            due.is("to", Due.tell(x, 1, "sign " + e[0] + " " + e[1] + " to " + e[2] + " " + e[3] + ";"), 1);
            for (int i = 0; i < 144; i++) {
                boolean within = Math.min(e[0], e[2]) <= i % 12 && i % 12 <= Math.max(e[0], e[2])
                    && Math.min(e[1], e[3]) <= i / 12 && i / 12 <= Math.max(e[1], e[3]);
                due.is("cell " + i, x.cell(i % 12, i / 12, 0), within ? 3 : 0);
            }
        }
        WindingSquare x = made();
        Due.good(x, 1, "stone 0 0; snow 11 0; sign 0 11; bare 11 11;");
        int[] corners = {1, 2, 3, 0};
        for (int i = 0; i < 4; i++) {
            due.is("one cell without to", x.cell(i % 2 * 11, i / 2 * 11, 0), corners[i]);
        }
    }

    private static void areasOver() {
        due.about("Terms 2", "line by line, over what was; all other CELLS bare");
        WindingSquare x = made();
        x.lay(9, 9, 1);
        x.lay(1, 1, 1);
        Due.good(x, 1, "stone 1 1 to 3 3; snow 2 2 to 4 4; bare 3 3; sign 3 2;");
        int[][] want = {{1, 1, 1}, {2, 2, 2}, {3, 3, 0}, {3, 2, 3}, {4, 4, 2}, {3, 1, 1}, {9, 9, 0}, {5, 5, 0}};
        for (int[] w : want) {
            due.is("cell " + w[0] + " " + w[1], x.cell(w[0], w[1], 0), w[2]);
        }
        due.is("stones", x.look(4), 5);
        Due.good(x, 1, "bare 0 0;");
        due.is("all bare", x.look(4), 0);
        due.is("all bare", x.cell(2, 2, 0), 0);
        due.is("one line", x.look(8), 1);
    }

    private static void waysTold() {
        due.about("Terms 2", "told, STEP of each WALKER is 0");
        WindingSquare x = made();
        Due.good(x, 2, "walker 0 wait 3 left; walker 1 left right;");
        x.comes(0, 0, 4);
        x.comes(1, 0, 7);
        x.minutes(2);
        Due.good(x, 2, "walker 0 wait 3 left; walker 1 left right;");
        x.minutes(3);
        due.is("three minutes anew", x.of(0, 5), 0);
        due.is("both words anew, and one on", x.of(1, 5), 4);
        due.is("one on", x.of(1, 3), 1);
        x.minutes(1);
        due.is("then left", x.of(0, 5), 1);
        due.is("told with a fault: it is as it was", Due.tell(x, 2, "walker 0 wait 3 left; walker 2;"), -1);
        x.minutes(1);
        due.is("behind the last", x.of(0, 2), 3);
        Due.good(x, 2, "");
        x.minutes(1);
        due.is("without a way", x.of(0, 2), 2);
        Due.good(x, 2, "walker 1 back;");
        x.minutes(1);
        due.is("another's way", x.of(0, 2), 1);
    }

    private static void waysOfSeveralLines() {
        due.about("Terms 2", "of several lines for one the last");
        WindingSquare x = made();
        Due.good(x, 2, "walker 0 left left left; walker 1 wait 2; walker 0 right;");
        x.comes(0, 0, 4);
        x.comes(1, 0, 7);
        x.minutes(1);
        due.is("the last", x.of(0, 4), 1);
        x.minutes(1);
        due.is("and no more of the first", x.of(0, 2), 5);
        due.is("the other's", x.of(1, 3), 0);
        Due.good(x, 2, "walker 1 back back; walker 1;");
        x.minutes(1);
        due.is("the last without words", x.of(1, 3), 1);
        due.is("its lines", x.look(9), 2);
    }

    private static void watchLines() {
        due.about("Terms 2", "N of the last line of WATCH whose MINUTE is not above MINUTE (blind, none: 0)");
        WindingSquare x = made();
        Due.good(x, 3, "from 2 watch 1; from 4 watch 2; from 6 blind; from 3 watch 3;");
        int[] want = {0, 0, 200, 600, 600, 600, 600, 600};
        for (int v : want) {
            due.is("minute " + x.look(2), x.of(0, 12), v);
            x.minutes(1);
        }
        x = made();
        Due.good(x, 0, "pays watch + 5;");
        due.is("no watch: 0", x.of(0, 13), 5);
        Due.good(x, 3, "from 0 watch 9; from 0 blind;");
        due.is("blind: 0", x.of(0, 13), 5);
        Due.good(x, 3, "from 1 watch 9;");
        due.is("none whose minute is not above: 0", x.of(0, 13), 5);
        x = made();
        Due.good(x, 3, "from 0 watch 4; from 2 blind; from 999 watch 1;");
        due.is("minute 0", x.of(0, 12), 800);
        x.minutes(1);
        due.is("minute 1", x.of(0, 12), 800);
        x.minutes(1);
        due.is("minute 2", x.of(0, 12), 0);
        Due.atMinute(x, 998);
        due.is("minute 998", x.of(0, 12), 0);
        x.minutes(1);
        due.is("minute 999", x.of(0, 12), 200);
        x.minutes(1);
        due.is("minute 1000", x.of(0, 12), 200);
    }

    private static void firstLineThatIsSo() {
        due.about("Terms 2", "E of the first line with that word whose B is so, or that has none");
        WindingSquare x = made();
        Due.good(x, 0, "pays 1 when haste < 3; sees 2; pays 3 when haste = 3; pays 4; pays 5;");
        due.is("of haste 3", x.of(0, 13), 3);
        due.is("of haste 5", x.of(1, 13), 4);
        due.is("sees", x.of(1, 12), 2);
        due.is("slips: none", x.of(1, 11), 100);
        Due.good(x, 0, "pays 4; pays 3 when haste = 3;");
        due.is("one that has none is before", x.of(0, 13), 4);
        Due.good(x, 0, many("pays 1 when 1 = 2;", 15) + "pays 8;");
        due.is("the 16th line", x.of(0, 13), 8);
        Due.good(x, 0, "pays 1 when 2 < 2; pays 2 when 2 > 2; pays 3 when 2 = 3; pays 4 when 2 = 2;");
        due.is("alike is neither less nor more", x.of(0, 13), 4);
        Due.good(x, 0, "pays 1 when 3 < 2; pays 2 when 2 > 3; pays 3 when 2 < 3;");
        due.is("less", x.of(0, 13), 3);
        Due.good(x, 0, "pays 3 when 3 > 2;");
        due.is("more", x.of(0, 13), 3);
    }

    private static void withoutLines() {
        due.about("Terms 2", "(none: slips: 300 times snow and 20 times haste, sees: 200 times watch, pays: 10 less turns)");
        for (int haste = 0; haste <= 9; haste++) {
            WindingSquare x = new WindingSquare();
            x.walker(haste);
            x.comes(0, 0, 4);
            due.is("slips of haste " + haste, x.of(0, 11), 20 * haste);
            x.lay(4, 0, 2);
            due.is("slips on snow", x.of(0, 11), 300 + 20 * haste);
            if (haste > 0) {
                Due.good(x, 3, "from 0 watch " + haste + ";");
                due.is("sees", x.of(0, 12), Math.min(1000, 200 * haste));
            }
        }
        WindingSquare x = new WindingSquare();
        x.walker(0);
        x.comes(0, 0, 4);
        for (int turns = 0; turns <= 12; turns++) {
            due.is("pays with turns " + turns, x.of(0, 13), Math.max(0, 10 - turns));
            x.turn(0, 0);
        }
    }

    private static void held() {
        due.about("Terms 2", "slips, sees held to 0 .. 1000, pays to 0 .. 99");
        int[] values = {-9999, -1, 0, 1, 98, 99, 100, 101, 999, 1000, 1001, 9999};
        for (int v : values) {
            WindingSquare x = made();
            String told = v < 0 ? "0 - " + -v : "" + v;
            Due.good(x, 0, "slips " + told + "; sees " + told + "; pays " + told + ";");
            due.is("slips " + v, x.of(0, 11), Math.max(0, Math.min(1000, v)));
            due.is("sees " + v, x.of(0, 12), Math.max(0, Math.min(1000, v)));
            due.is("pays " + v, x.of(0, 13), Math.max(0, Math.min(99, v)));
        }
        WindingSquare x = made();
        Due.good(x, 0, "pays 50 when 9999 > 1000 and 0 - 5 < 0;");
        due.is("what is compared is not held", x.of(0, 13), 50);
    }

    private static int slips(String sum) {
        WindingSquare x = made();
        Due.good(x, 0, "slips " + sum + ";");
        return x.of(0, 11);
    }

    private static void wrapping() {
        due.about("Terms 2", "Ints, which wrap; / goes towards 0.");
        due.is("wraps below 0", slips("9999 * 9999 * 22"), 0);
        due.is("wraps above 0 again", slips("9999 * 9999 * 43"), 1000);
        due.is("towards 0", slips("9999 * 9999 * 22 / 9999 + 21 * 9999"), 418);
        due.is("towards 0", slips("0 - 7 / 2 + 10"), 7);
        int most = 46340 * 46340;
        due.is("the test's own number", most, 2147395600);
        String great = "4634 * 10 * 4634 * 10";
        due.is("just below", slips(great + " + 8804 * 10 + 7 - 2147 * 1000 * 1000 - 483 * 1000"), 647);
        due.is("one above wraps", slips(great + " + 8804 * 10 + 8"), 0);
        due.is("the greatest", slips(great + " + 8804 * 10 + 7"), 1000);
        due.is("less one again", slips(great + " + 8804 * 10 + 8 - 1"), 1000);
        due.is("the least by 1", slips(great + " + 8804 * 10 + 8 + 0 * 1 / 1"), 0);
        due.is("the least of all, parted", slips("4096 * 4096 * 128 / 4096 / 4096 + 128 + 5"), 5);
        due.is("from the left", slips("7 / 2 * 2"), 6);
        due.is("from the left", slips("2 * 7 / 2"), 7);
        due.is("from the left", slips("100 - 10 - 1"), 89);
        due.is("from the left", slips("100 / 10 / 5"), 2);
        WindingSquare x = made();
        Due.good(x, 0, "pays 1 when 4096 * 4096 * 128 < 0; pays 2;");
        due.is("compared as it wraps", x.of(0, 13), 1);
        Due.good(x, 0, "pays 1 when 4096 * 4096 * 256 = 0; pays 2;");
        due.is("compared as it wraps", x.of(0, 13), 1);
        Due.good(x, 0, "pays 1 when 4096 * 4096 * 128 > 4096 * 4096 * 128 - 1; pays 2;");
        due.is("the least less one is the greatest", x.of(0, 13), 2);
    }

    private static void factsNotIn() {
        due.about("Terms 2", "haste, turns, signs, x, y, facing: his (not IN: all but haste 0)");
        String[] words = {"haste", "turns", "signs", "x", "y", "facing", "snow", "inside", "watch", "minute"};
        int[] in = {5, 3, 3, 11, 11, 3, 1, 2, 7, 4};
        int[] out = {5, 0, 0, 0, 0, 0, 0, 1, 7, 4};
        for (int i = 0; i < words.length; i++) {
            WindingSquare x = made();
            Due.good(x, 3, "from 4 watch 7;");
            x.minutes(4);
            x.comes(0, 0, 4);
            x.comes(1, 2, 11);
            x.lay(11, 11, 3);
            x.turn(1, 2);
            x.turn(1, 0);
            x.lay(11, 11, 2);
            Due.good(x, 0, "slips " + words[i] + "; sees " + words[i] + "; pays " + words[i] + ";");
            for (int what = 11; what <= 13; what++) {
                due.is("in: " + words[i], x.of(1, what), in[i]);
            }
            Due.good(x, 1, "stone 11 11;");
            for (int what = 11; what <= 13; what++) {
                due.is("not in: " + words[i], x.of(1, what), out[i]);
            }
        }
        due.about("Terms 2", "snow: 1, if he stands on it, else 0; inside: how many are IN");
        for (int v = 0; v <= 3; v++) {
            WindingSquare x = made();
            Due.good(x, 0, "pays snow; slips inside;");
            due.is("none are in", x.of(0, 11), 0);
            x.lay(4, 0, v == 1 ? 0 : v);
            x.lay(5, 0, 2);
            x.comes(0, 0, 4);
            due.is("on " + v, x.of(0, 13), v == 2 ? 1 : 0);
            due.is("one is in", x.of(1, 11), 1);
        }
        WindingSquare x = new WindingSquare();
        Due.good(x, 0, "pays snow; slips inside;");
        x.lay(0, 0, 2);
        for (int i = 0; i < 16; i++) {
            x.walker(0);
        }
        due.is("who is not in stands on no snow", x.of(0, 13), 0);
        for (int i = 0; i < 16; i++) {
            x.comes(i, i < 12 ? 0 : 2, i % 12);
            due.is("so many are in", x.of(0, 11), i + 1);
        }
    }
}
