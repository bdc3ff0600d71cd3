/** Counts and prints the answers that are not due. */
final class Due {
    private int asked;
    private int wrong;

    void is(String call, long got, long want) {
        asked++;
        if (got != want) {
            wrong++;
            if (wrong <= 40) {
                System.out.println(call + " answered " + got + ", due is " + want);
            }
        }
    }

    void is(String call, boolean got, boolean want) {
        is(call, got ? 1 : 0, want ? 1 : 0);
    }

    /** Ends the test, with exit code 1 if an answer was wrong. */
    void end() {
        System.out.println(asked + " answers, " + wrong + " wrong");
        if (wrong != 0 || asked == 0) {
            System.exit(1);
        }
    }

    /** Brings a text on the tape, which must be empty. */
    static void tape(WindingSquare x, String text) {
        int n = text.length();
        for (int i = 0; i < n; i += 20) {
            x.feed(four(text, i), four(text, i + 4), four(text, i + 8), four(text, i + 12), four(text, i + 16));
        }
        if (!x.end(n)) {
            throw new IllegalStateException("the tape has not " + n + " bytes");
        }
    }

    static int tell(WindingSquare x, int k, String text) {
        tape(x, text);
        return x.text(k);
    }

    /** A text that has a fault there. */
    void fault(int k, String text, int fault, int place) {
        WindingSquare x = new WindingSquare();
        x.walker(3);
        x.walker(5);
        fault(x, k, text, fault, place);
    }

    void fault(WindingSquare x, int k, String text, int fault, int place) {
        is("text " + k + " '" + text + "'", tell(x, k, text), -1);
        is("fault(0) of '" + text + "'", x.fault(0), fault);
        is("fault(1) of '" + text + "'", x.fault(1), place);
        is("the tape behind it", x.end(1), false);
    }

    private static int four(String text, int from) {
        int v = 0;
        for (int i = from; i < from + 4; i++) {
            v = v << 8 | (i < text.length() ? text.charAt(i) & 255 : 0);
        }
        return v;
    }
}
