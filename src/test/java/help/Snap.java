/** All that can be asked of an object, as one text; asking changes nothing. */
final class Snap {
    private Snap() {
    }

    static String of(WindingSquare x) {
        StringBuilder b = new StringBuilder();
        for (int what = 0; what <= 11; what++) {
            b.append(" look").append(what).append('=').append(x.look(what));
        }
        for (int who = 0; who < x.look(0); who++) {
            for (int what = 0; what <= 13; what++) {
                b.append(" of").append(who).append(',').append(what).append('=').append(x.of(who, what));
            }
        }
        for (int i = 0; i < 144; i++) {
            b.append(" cell").append(i).append('=').append(x.cell(i % 12, i / 12, 0)).append(',').append(x.cell(i % 12, i / 12, 1));
        }
        for (int i = 0; i < x.look(5); i++) {
            b.append(" line").append(i).append('=');
            for (int what = 0; what <= 3; what++) {
                b.append(x.book(i, what)).append(',');
            }
        }
        return b.append(told(x)).toString();
    }

    /** What was told for thought. */
    private static String told(WindingSquare x) {
        StringBuilder b = new StringBuilder(" one=");
        b.append(x.one(0)).append(',').append(x.one(1)).append(" round=");
        for (int what = 0; what <= 3; what++) {
            b.append(x.round(what)).append(',');
        }
        return b.append(" hedge=").append(x.hedge()).toString();
    }

    static String fault(WindingSquare x) {
        return " fault=" + x.fault(0) + "," + x.fault(1);
    }

    /** How many bytes the tape has: the most that it can be cut to. */
    static int tape(WindingSquare x) {
        int n = 401;
        while (n >= 0 && !x.end(n)) {
            n--;
        }
        return n;
    }
}
