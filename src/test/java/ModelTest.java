import java.util.Random;

/** Long runs of calls by fixed seeds, beside a second and plainer writing of the square (promises 1 to 16, 31, 34 to 36). */
public final class ModelTest {
    private static final Due due = new Due();
    private static final String[][] WORDS = {
        {"slips", "sees", "pays", "when", "or", "and", "not", "haste", "turns", "signs", "x", "y", "facing", "snow", "inside",
            "watch", "minute", ";", "+", "-", "*", "/", "(", ")", "<", "=", ">", "0", "3", "12", "500", "9999", "12345"},
        {"stone", "snow", "sign", "bare", "to", "0", "3", "7", "11", "12", ";", ";", "5", "4", "("},
        {"walker", "ahead", "left", "right", "back", "wait", "0", "1", "2", "11", "12", ";", "3", "+"},
        {"from", "watch", "blind", "0", "3", "9", "10", "999", "1000", ";", "x", "1"}};

    private static Random random;

    public static void main(String[] args) {
        for (int seed = 0; seed < 400; seed++) {
            random = new Random(seed);
            run(seed);
        }
        for (int seed = 0; seed < 6000; seed++) {
            random = new Random(-seed);
            textOnly(seed);
        }
        due.end();
    }

    private static int pick(int n) {
        return random.nextInt(n);
    }

    private static String sum() {
        String[] facts = WORDS[0];
        StringBuilder b = new StringBuilder();
        int n = 1 + pick(3);
        for (int i = 0; i < n; i++) {
            if (i > 0) {
                b.append(new String[] {" + ", "-", " * ", "*"}[pick(4)]);
            }
            b.append(pick(2) == 0 ? String.valueOf(pick(pick(3) == 0 ? 1000 : 12)) : facts[7 + pick(10)]);
            if (pick(5) == 0) {
                b.append(" / ").append(1 + pick(9));
            }
        }
        return b.toString();
    }

    private static String condition(int deep) {
        int kind = pick(deep > 3 ? 1 : 6);
        switch (kind) {
            case 1: return "not " + condition(deep + 1);
            case 2: return "(" + condition(deep + 1) + ")";
            case 3: return condition(deep + 1) + " and " + condition(deep + 1);
            case 4: return condition(deep + 1) + " or " + condition(deep + 1);
            default: return sum() + new String[] {"<", " = ", ">"}[pick(3)] + sum();
        }
    }

    private static String line(int k) {
        switch (k) {
            case 0:
                return new String[] {"slips ", "sees ", "pays "}[pick(3)] + sum()
                    + (pick(3) == 0 ? "" : " when " + condition(0)) + ";";
            case 1:
                return new String[] {"stone ", "snow ", "sign ", "bare "}[pick(4)] + pick(12) + " " + pick(12)
                    + (pick(3) == 0 ? " to " + pick(12) + " " + pick(12) : "") + ";";
            case 2:
                StringBuilder b = new StringBuilder("walker " + pick(6));
                for (int i = pick(8); i > 0; i--) {
                    String word = WORDS[2][1 + pick(5)];
                    b.append(" ").append(word);
                    if (word.equals("ahead") || word.equals("wait")) {
                        b.append(" ").append(1 + pick(5));
                    }
                }
                return b.append(" ;").toString();
            default:
                return "from " + pick(60) + (pick(4) == 0 ? " blind;" : " watch " + (1 + pick(5)) + ";");
        }
    }

    private static String text(int k) {
        StringBuilder b = new StringBuilder();
        for (int i = pick(6) == 0 ? 17 : pick(7); i > 0; i--) {
            String line = line(k);
            if (b.length() + line.length() < 370) {
                b.append(line).append(pick(3) == 0 ? "\n" : "");
            }
        }
        if (pick(4) == 0 && b.length() > 0) {
            int at = pick(b.length());
            switch (pick(4)) {
                case 0 -> b.setLength(at);
                case 1 -> b.insert(at, " " + WORDS[k][pick(WORDS[k].length)] + " ");
                case 2 -> b.setCharAt(at, (char) pick(256));
                default -> b.deleteCharAt(at);
            }
        }
        return b.toString();
    }

    /** Rows of words that are mostly wrong somewhere, to find the place of the first fault. */
    private static void textOnly(int seed) {
        WindingSquare x = new WindingSquare();
        Model m = new Model();
        for (int i = 0; i < 3; i++) {
            x.walker(i);
            m.now.people.add(new Model.Person());
            m.now.people.get(i).haste = i;
        }
        int k = pick(4);
        String text = text(k);
        if (pick(2) == 0) {
            StringBuilder b = new StringBuilder(line(k));
            for (int i = pick(30); i > 0 && b.length() < 380; i--) {
                b.append(pick(3) == 0 ? " " : "").append(WORDS[k][pick(WORDS[k].length)]);
            }
            text = b.toString();
        }
        told(seed, x, m, k, text);
        for (int who = 0; who < 3; who++) {
            for (int what = 11; what <= 13; what++) {
                due.is(seed + " of " + what + " '" + text + "'", x.of(who, what), m.of(who, what));
            }
        }
    }

    private static void told(int seed, WindingSquare x, Model m, int k, String text) {
        due.is(seed + " text " + k + " '" + text + "'", Due.tell(x, k, text), m.text(k, text));
        due.is(seed + " fault '" + text + "'", x.fault(0), m.fault);
        due.is(seed + " place '" + text + "'", x.fault(1), m.place);
    }

    private static void run(int seed) {
        WindingSquare x = new WindingSquare();
        Model m = new Model();
        int people = 1 + pick(16);
        for (int i = 0; i < 160; i++) {
            if (i < people || pick(40) == 0) {
                int haste = i < people ? pick(10) : pick(12) - 1;
                int got = x.walker(haste);
                boolean can = haste >= 0 && haste <= 9 && m.now.people.size() < 16;
                due.is(seed + " walker", got, can ? m.now.people.size() : -1);
                if (can) {
                    Model.Person p = new Model.Person();
                    p.haste = haste;
                    m.now.people.add(p);
                    m.past.clear();
                }
            }
            call(seed, x, m);
            if (i % 4 == 0) {
                compare(seed, x, m);
            }
        }
        compare(seed, x, m);
    }

    private static void call(int seed, WindingSquare x, Model m) {
        int who = pick(12) == 0 ? pick(18) - 1 : pick(Math.max(1, m.now.people.size()));
        switch (pick(14)) {
            case 0, 1, 2, 3 -> {
                int side = pick(30) == 0 ? pick(6) - 1 : pick(4);
                int k = pick(14) - 1;
                due.is(seed + " comes", x.comes(who, side, k), m.comes(who, side, k));
            }
            case 4 -> {
                int how = pick(5) - 1;
                due.is(seed + " turn", x.turn(who, how), m.turn(who, how));
            }
            case 5 -> {
                int cx = pick(14) - 1;
                int cy = pick(14) - 1;
                int v = pick(6) - 1;
                due.is(seed + " lay", x.lay(cx, cy, v), m.lay(cx, cy, v));
            }
            case 6, 7 -> {
                int n = pick(20) == 0 ? pick(63) : 1 + pick(5);
                due.is(seed + " minutes", x.minutes(n), m.minutes(n));
            }
            case 8 -> {
                int k = pick(4);
                told(seed, x, m, k, text(k));
            }
            case 9 -> due.is(seed + " undo", x.undo(), m.undo());
            case 10 -> {
                boolean taken = pick(2) == 0;
                if (pick(3) == 0) {
                    due.is(seed + " image", x.image(taken), m.image(taken));
                }
            }
            case 11 -> {
                int n = pick(63);
                int what = pick(6) - 1;
                due.is(seed + " goes", x.goes(n, what), m.goes(n, what));
            }
            case 12 -> due.is(seed + " over", x.over(who), m.over(who));
            default -> {
                int other = pick(Math.max(1, m.now.people.size()));
                due.is(seed + " meets", x.meets(who, other), m.meets(who, other));
                if (pick(4) == 0) {
                    int v = random.nextInt();
                    due.is(seed + " state", x.state(v), m.now.state);
                    m.now.state = v;
                    m.past.clear();
                }
            }
        }
    }

    private static void compare(int seed, WindingSquare x, Model m) {
        for (int what = 0; what <= 11; what++) {
            due.is(seed + " look " + what, x.look(what), m.look(what));
        }
        for (int who = 0; who < m.now.people.size(); who++) {
            for (int what = 0; what <= 13; what++) {
                due.is(seed + " of " + who + " " + what, x.of(who, what), m.of(who, what));
            }
        }
        for (int i = 0; i < 144; i++) {
            Model.Person p = m.now.at(i % 12, i / 12);
            due.is(seed + " cell", x.cell(i % 12, i / 12, 0), m.now.cells[i % 12][i / 12]);
            due.is(seed + " who", x.cell(i % 12, i / 12, 1), p == null ? -1 : m.now.people.indexOf(p));
        }
        for (int i = 0; i < m.now.book.size(); i++) {
            for (int what = 0; what < 4; what++) {
                due.is(seed + " book " + i + " " + what, x.book(i, what), m.now.book.get(i)[what]);
            }
        }
    }
}
