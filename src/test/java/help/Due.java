/** Counts and prints the answers that are not due. */
final class Due {
    private int asked;
    private int wrong;
    private int sentences;
    private int askedBefore;
    private String sentence = "";

    /** The sentence of the document that the next answers hold to; a sentence without answers is wrong. */
    void about(String where, String words) {
        settle();
        sentences++;
        sentence = where + " (" + words + "): ";
    }

    private void settle() {
        if (!sentence.isEmpty() && asked == askedBefore) {
            is("answers asked", 0, 1);
        }
        askedBefore = asked;
    }

    void is(String call, long got, long want) {
        asked++;
        if (got != want) {
            wrong++;
            if (wrong <= 40) {
                System.out.println(sentence + call + " answered " + got + ", due is " + want);
            }
        }
    }

    void is(String call, boolean got, boolean want) {
        is(call, got ? 1 : 0, want ? 1 : 0);
    }

    /** Two long tellings that must be alike; only where they part is printed. */
    void same(String what, String got, String want) {
        int at = 0;
        while (at < Math.min(got.length(), want.length()) && got.charAt(at) == want.charAt(at)) {
            at++;
        }
        boolean alike = got.equals(want);
        String parts = alike ? "" : " parts at '" + around(got, at) + "' from '" + around(want, at) + "'";
        is(what + parts, alike, true);
    }

    private static String around(String text, int at) {
        return text.substring(Math.max(0, at - 60), Math.min(text.length(), at + 20));
    }

    /** Ends the test, with exit code 1 if an answer was wrong. */
    void end() {
        settle();
        System.out.println((sentences == 0 ? "" : sentences + " sentences, ") + asked + " answers, " + wrong + " wrong");
        if (wrong != 0 || asked == 0) {
            System.exit(1);
        }
    }

    /** Brings a text on the tape, which must be empty. */
    static void tape(WindingSquare x, String text) {
        int n = text.length();
        for (int i = 0; i < n; i += 20) {
            x.feed(four(text, i), four(text, i + 4), four(text, i + 8), four(text, i + 12), four(text, i + 16));
        }
        if (!x.end(n)) {
            throw new IllegalStateException("the tape has not " + n + " bytes");
        }
    }

    static int tell(WindingSquare x, int k, String text) {
        tape(x, text);
        return x.text(k);
    }

    /** Tells a text that is good; the test itself is wrong if it is not. */
    static void good(WindingSquare x, int k, String text) {
        if (tell(x, k, text) < 0) {
            throw new IllegalStateException("a fault " + x.fault(0) + " at " + x.fault(1) + " of '" + text + "'");
        }
    }

    /** Lets minutes go by until that one; the test itself is wrong if it does not come. */
    static WindingSquare atMinute(WindingSquare x, int minute) {
        for (int i = 0; i < 170 && x.look(2) < minute; i++) {
            x.minutes(Math.min(60, minute - x.look(2)));
        }
        if (x.look(2) != minute) {
            throw new IllegalStateException("minute " + x.look(2) + ", not " + minute);
        }
        return x;
    }

    /** A text that has a fault there. */
    void fault(int k, String text, int fault, int place) {
        WindingSquare x = new WindingSquare();
        x.walker(3);
        x.walker(5);
        fault(x, k, text, fault, place);
    }

    void fault(WindingSquare x, int k, String text, int fault, int place) {
        is("text " + k + " '" + text + "'", tell(x, k, text), -1);
        is("fault(0) of '" + text + "'", x.fault(0), fault);
        is("fault(1) of '" + text + "'", x.fault(1), place);
        is("the tape behind it", x.end(1), false);
    }

    private static int four(String text, int from) {
        int v = 0;
        for (int i = from; i < from + 4; i++) {
            v = v << 8 | (i < text.length() ? text.charAt(i) & 255 : 0);
        }
        return v;
    }
}
