import java.util.ArrayList;
import java.util.Arrays;
import java.util.HashMap;
import java.util.List;
import java.util.Map;

/** The square and its texts once more, in the shortest form and by other means: texts are read anew whenever asked. */
final class Model {
    static final class Fault extends RuntimeException {
        final int what;
        final int place;

        Fault(int what, int place) {
            super("fault " + what + " at " + place, null, false, false);
            this.what = what;
            this.place = place;
        }
    }

    static final class Person implements Cloneable {
        int haste, x, y, facing, turns, signs, side, minutesOnWay, crossed, caught, slipped;
        boolean in;

        Person copy() {
            try {
                return (Person) clone();
            } catch (CloneNotSupportedException e) {
                throw new IllegalStateException(e);
            }
        }
    }

    static final class World {
        List<Person> people = new ArrayList<>();
        int[][] cells = new int[12][12];
        int minute, paid, state;
        List<int[]> book = new ArrayList<>();

        World copy() {
            World w = new World();
            for (Person p : people) {
                w.people.add(p.copy());
            }
            for (int i = 0; i < 12; i++) {
                w.cells[i] = cells[i].clone();
            }
            w.minute = minute;
            w.paid = paid;
            w.state = state;
            w.book.addAll(book);
            return w;
        }

        Person at(int x, int y) {
            for (Person p : people) {
                if (p.in && p.x == x && p.y == y) {
                    return p;
                }
            }
            return null;
        }
    }

    World now = new World();
    List<World> past = new ArrayList<>();
    String[] texts = {"", "", "", ""};
    int[] lines = new int[4];
    Map<Integer, List<String>> ways = new HashMap<>();
    World imageWorld;
    String[] imageTexts;
    int[] imageLines;
    Map<Integer, List<String>> imageWays;
    int fault;
    int place = -1;
    boolean thought;

    // tokens: each {text, place}; the end is {"", length}
    private List<String> words;
    private List<Integer> places;
    private int at;

    private void cut(String text) {
        words = new ArrayList<>();
        places = new ArrayList<>();
        java.util.regex.Matcher m = java.util.regex.Pattern.compile("[a-zA-Z]+|[0-9]+|[^ \n]", java.util.regex.Pattern.DOTALL)
            .matcher(text);
        while (m.find()) {
            words.add(m.group());
            places.add(m.start());
        }
        words.add("");
        places.add(text.length());
        at = 0;
    }

    private String peek() {
        return words.get(at);
    }

    private boolean is(String... any) {
        return !peek().isEmpty() && Arrays.asList(any).contains(peek());
    }

    private Fault wrong(int what) {
        return new Fault(what, places.get(at));
    }

    private String take(String... any) {
        if (!is(any)) {
            throw wrong(1);
        }
        return words.get(at++);
    }

    private int number(int low, int high) {
        if (!peek().matches("[0-9]{1,4}")) {
            throw wrong(1);
        }
        int v = Integer.parseInt(peek());
        if (v < low || v > high) {
            throw wrong(2);
        }
        at++;
        return v;
    }

    private void limit(int count, int most) {
        if (count > most) {
            throw wrong(3);
        }
    }

    // the law, read and told at once
    private static final String[] FACTS = {"haste", "turns", "signs", "x", "y", "facing", "snow", "inside", "watch", "minute"};
    private Map<String, Integer> facts;

    private int unit() {
        if (is(FACTS)) {
            return facts.get(words.get(at++));
        }
        return number(0, 9999);
    }

    private int term() {
        int v = unit();
        while (is("*", "/")) {
            v = take("*", "/").equals("*") ? v * unit() : v / number(1, 9999);
        }
        return v;
    }

    private int sum() {
        int v = term();
        while (is("+", "-")) {
            v = take("+", "-").equals("+") ? v + term() : v - term();
        }
        return v;
    }

    private boolean single(int open) {
        if (is("not", "(")) {
            limit(open + 1, 8);
            if (take("not", "(").equals("not")) {
                return !single(open + 1);
            }
            boolean v = either(open + 1);
            take(")");
            return v;
        }
        int a = sum();
        String sign = take("<", "=", ">");
        int b = sum();
        return sign.equals("<") ? a < b : sign.equals("=") ? a == b : a > b;
    }

    private boolean both(int open) {
        boolean v = single(open);
        while (is("and")) {
            take("and");
            v &= single(open);
        }
        return v;
    }

    private boolean either(int open) {
        boolean v = both(open);
        while (is("or")) {
            take("or");
            v |= both(open);
        }
        return v;
    }

    /** Goes through the law; the first told for the word, or null; counts its lines. */
    private int lawLines;

    private Integer law(String text, String word, Map<String, Integer> of) {
        cut(text);
        facts = of;
        Integer told = null;
        lawLines = 0;
        while (!peek().isEmpty()) {
            if (!is("slips", "sees", "pays")) {
                throw wrong(1);
            }
            limit(lawLines + 1, 16);
            String w = take("slips", "sees", "pays");
            int v = sum();
            boolean so = true;
            if (is("when")) {
                take("when");
                so = either(0);
            }
            take(";");
            lawLines++;
            if (so && told == null && w.equals(word)) {
                told = v;
            }
        }
        return told;
    }

    int asked(Person p, String word) {
        Map<String, Integer> f = new HashMap<>();
        int inside = 0;
        for (Person q : now.people) {
            inside += q.in ? 1 : 0;
        }
        int[] values = p.in
            ? new int[] {p.haste, p.turns, p.signs, p.x, p.y, p.facing, now.cells[p.x][p.y] == 2 ? 1 : 0, inside, 0, 0}
            : new int[] {p.haste, 0, 0, 0, 0, 0, 0, inside, 0, 0};
        values[8] = watch(texts[3], now.minute);
        values[9] = now.minute;
        for (int i = 0; i < 10; i++) {
            f.put(FACTS[i], values[i]);
        }
        Integer told = law(texts[0], word, f);
        if (word.equals("slips")) {
            return hold(told == null ? 300 * values[6] + 20 * values[0] : told, 1000);
        }
        if (word.equals("sees")) {
            return hold(told == null ? 200 * values[8] : told, 1000);
        }
        return hold(told == null ? 10 - values[1] : told, 99);
    }

    private static int hold(int v, int most) {
        return v < 0 ? 0 : v > most ? most : v;
    }

    private int watchLines;

    private int watch(String text, int minute) {
        cut(text);
        watchLines = 0;
        int told = 0;
        while (!peek().isEmpty()) {
            if (!is("from")) {
                throw wrong(1);
            }
            limit(watchLines + 1, 16);
            take("from");
            int since = number(0, 999);
            int n = take("watch", "blind").equals("blind") ? 0 : number(1, 9);
            take(";");
            watchLines++;
            if (since <= minute) {
                told = n;
            }
        }
        return told;
    }

    private int readStones(String text, int[][] cells) {
        cut(text);
        int n = 0;
        List<String> kinds = List.of("bare", "stone", "snow", "sign");
        while (!peek().isEmpty()) {
            if (!kinds.contains(peek())) {
                throw wrong(1);
            }
            limit(n + 1, 16);
            int v = kinds.indexOf(words.get(at++));
            int x = number(0, 11);
            int y = number(0, 11);
            int u = x;
            int w = y;
            if (is("to")) {
                take("to");
                u = number(0, 11);
                w = number(0, 11);
            }
            take(";");
            for (int i = 0; i < 144; i++) {
                if ((i % 12 - x) * (i % 12 - u) <= 0 && (i / 12 - y) * (i / 12 - w) <= 0) {
                    cells[i % 12][i / 12] = v;
                }
            }
            n++;
        }
        return n;
    }

    /** A way as a list of what is done in each minute. */
    private int readWays(String text, Map<Integer, List<String>> told) {
        cut(text);
        int n = 0;
        while (!peek().isEmpty()) {
            if (!is("walker")) {
                throw wrong(1);
            }
            limit(n + 1, 16);
            take("walker");
            int who = number(0, now.people.size() - 1);
            List<String> way = new ArrayList<>();
            for (int count = 1; !is(";"); count++) {
                if (!is("ahead", "left", "right", "back", "wait")) {
                    throw wrong(1);
                }
                limit(count, 12);
                String word = words.get(at++);
                int times = word.equals("ahead") || word.equals("wait") ? number(1, 11) : 1;
                for (int i = 0; i < times; i++) {
                    way.add(word);
                }
            }
            take(";");
            told.put(who, way);
            n++;
        }
        return n;
    }

    int text(int k, String text) {
        fault = 0;
        place = -1;
        if (k < 0 || k > 3) {
            return -1;
        }
        try {
            int[][] cells = new int[12][12];
            Map<Integer, List<String>> told = new HashMap<>();
            Map<String, Integer> zeros = new HashMap<>();
            for (String f : FACTS) {
                zeros.put(f, 0);
            }
            if (k == 0) {
                law(text, "", zeros);
                lines[0] = lawLines;
            } else if (k == 1) {
                lines[1] = readStones(text, cells);
                now.cells = cells;
                for (Person p : now.people) {
                    p.in &= cells[p.x][p.y] != 1;
                }
            } else if (k == 2) {
                lines[2] = readWays(text, told);
                ways = told;
                for (Person p : now.people) {
                    p.minutesOnWay = 0;
                }
            } else {
                watch(text, 0);
                lines[3] = watchLines;
            }
        } catch (Fault f) {
            fault = f.what;
            place = f.place;
            return -1;
        }
        texts[k] = text;
        if (k != 0) {
            past.clear();
        }
        return lines[k];
    }

    void push() {
        past.add(now.copy());
        if (past.size() > 6) {
            past.remove(0);
        }
    }

    private void line(int what, Person p, int much) {
        if (now.book.size() < 150) {
            now.book.add(new int[] {now.minute, what, now.people.indexOf(p), much});
        }
    }

    boolean comes(int who, int side, int k) {
        if (who < 0 || who >= now.people.size() || side < 0 || side > 3 || k < 0 || k > 11) {
            return false;
        }
        int x = side == 1 ? 0 : side == 3 ? 11 : k;
        int y = side == 0 ? 0 : side == 2 ? 11 : k;
        if (now.people.get(who).in || now.cells[x][y] == 1 || now.at(x, y) != null) {
            return false;
        }
        push();
        Person p = now.people.get(who);
        p.in = true;
        p.x = x;
        p.y = y;
        p.facing = side;
        p.side = side;
        p.turns = 0;
        p.signs = 0;
        p.minutesOnWay = 0;
        line(0, p, 12 * y + x);
        return true;
    }

    private void turns(Person p, String how) {
        int n = how.equals("back") ? 2 : 1;
        p.facing = (p.facing + (how.equals("left") ? 3 : n)) % 4;
        p.turns += n;
        p.signs += now.cells[p.x][p.y] == 3 ? n : 0;
        line(1, p, 12 * p.y + p.x);
    }

    boolean turn(int who, int how) {
        if (who < 0 || who >= now.people.size() || !now.people.get(who).in || how < 0 || how > 2) {
            return false;
        }
        push();
        turns(now.people.get(who), new String[] {"left", "right", "back"}[how]);
        return true;
    }

    boolean lay(int x, int y, int v) {
        if (x < 0 || y < 0 || x > 11 || y > 11 || v < 0 || v > 3 || now.cells[x][y] == v || v == 1 && now.at(x, y) != null) {
            return false;
        }
        push();
        now.cells[x][y] = v;
        return true;
    }

    private boolean falls(int chance) {
        if (thought) {
            return chance >= 500;
        }
        if (chance == 0) {
            return false;
        }
        now.state = now.state * 1664525 + 1013904223;
        return (now.state >> 8 & 0xffffff) % 1000 < chance;
    }

    private void goesOn(Person p, boolean bySlip) {
        int x = p.x + (p.facing == 1 ? 1 : p.facing == 3 ? -1 : 0);
        int y = p.y + (p.facing == 0 ? 1 : p.facing == 2 ? -1 : 0);
        if (x < 0 || y < 0 || x > 11 || y > 11) {
            if (Math.abs(p.facing - p.side) != 2) {
                p.crossed++;
                now.paid += asked(p, "pays");
                line(3, p, p.turns);
                if (p.turns == 0 && falls(asked(p, "sees"))) {
                    p.caught++;
                    now.paid += 50;
                    line(4, p, 50);
                }
            }
            p.in = false;
        } else if (now.cells[x][y] == 1 || now.at(x, y) != null) {
            line(5, p, 12 * p.y + p.x);
        } else {
            p.x = x;
            p.y = y;
            if (!bySlip && now.cells[x][y] == 2 && falls(asked(p, "slips"))) {
                p.slipped++;
                line(2, p, 12 * y + x);
                goesOn(p, true);
            }
        }
    }

    private String word(int who, Person p) {
        List<String> way = ways.getOrDefault(who, List.of());
        int i = p.minutesOnWay++;
        return i < way.size() ? way.get(i) : "ahead";
    }

    void pass() {
        for (int i = 0; i < now.people.size(); i++) {
            Person p = now.people.get(i);
            if (p.in) {
                String word = word(i, p);
                if (word.equals("ahead")) {
                    goesOn(p, false);
                } else if (!word.equals("wait")) {
                    turns(p, word);
                }
            }
        }
        now.minute++;
    }

    int count(String what) {
        int sum = 0;
        for (Person p : now.people) {
            sum += what.equals("in") ? p.in ? 1 : 0 : what.equals("crossed") ? p.crossed : p.caught;
        }
        return sum;
    }

    int minutes(int n) {
        if (n < 1 || n > 60 || now.minute + n > 9999) {
            return -1;
        }
        int before = count("crossed");
        for (int i = 0; i < n; i++) {
            push();
            pass();
        }
        return count("crossed") - before;
    }

    int goes(int n, int what) {
        if (n < 1 || n > 60 || what < 0 || what > 3) {
            return -1;
        }
        World kept = now;
        now = now.copy();
        thought = true;
        for (int i = 0; i < n; i++) {
            pass();
        }
        int answer = what == 0 ? count("in") : what == 1 ? count("crossed") : what == 2 ? count("caught") : now.paid;
        thought = false;
        now = kept;
        return answer;
    }

    int over(int who) {
        if (who < 0 || who >= now.people.size() || !now.people.get(who).in) {
            return -1;
        }
        World kept = now;
        now = now.copy();
        thought = true;
        int answer = -1;
        for (int i = 1; i <= 60 && answer < 0; i++) {
            pass();
            answer = now.people.get(who).in ? -1 : i;
        }
        thought = false;
        now = kept;
        return answer;
    }

    /** Each goes alone over a bare copy of the square with its stones. */
    private List<int[]> alone(int who) {
        World kept = now;
        Map<Integer, List<String>> keptWays = ways;
        now = new World();
        Person p = kept.people.get(who).copy();
        now.people.add(p);
        for (int i = 0; i < 144; i++) {
            now.cells[i % 12][i / 12] = kept.cells[i % 12][i / 12] == 1 ? 1 : 0;
        }
        ways = new HashMap<>();
        ways.put(0, keptWays.getOrDefault(who, List.of()));
        thought = true;
        List<int[]> path = new ArrayList<>();
        for (int i = 0; i <= 60; i++) {
            path.add(p.in ? new int[] {p.x, p.y} : null);
            pass();
        }
        thought = false;
        now = kept;
        ways = keptWays;
        return path;
    }

    int meets(int a, int b) {
        int n = now.people.size();
        if (a < 0 || b < 0 || a >= n || b >= n || !now.people.get(a).in || !now.people.get(b).in) {
            return -1;
        }
        List<int[]> first = alone(a);
        List<int[]> second = alone(b);
        for (int i = 0; i <= 60; i++) {
            if (first.get(i) != null && second.get(i) != null && Arrays.equals(first.get(i), second.get(i))) {
                return i;
            }
        }
        return -1;
    }

    boolean undo() {
        if (past.isEmpty()) {
            return false;
        }
        now = past.remove(past.size() - 1);
        return true;
    }

    boolean image(boolean taken) {
        if (taken) {
            imageWorld = now.copy();
            imageTexts = texts.clone();
            imageLines = lines.clone();
            imageWays = ways;
            return true;
        }
        if (imageWorld == null) {
            return false;
        }
        now = imageWorld.copy();
        texts = imageTexts.clone();
        lines = imageLines.clone();
        ways = imageWays;
        past.clear();
        return true;
    }

    int of(int who, int what) {
        if (who < 0 || who >= now.people.size() || what < 0 || what > 13) {
            return -2;
        }
        Person p = now.people.get(who);
        if (what >= 2 && what <= 7 && !p.in) {
            return -1;
        }
        if (what >= 11) {
            return asked(p, new String[] {"slips", "sees", "pays"}[what - 11]);
        }
        return new int[] {p.haste, p.in ? 1 : 0, p.x, p.y, p.facing, p.turns, p.signs, p.side, p.crossed, p.caught,
            p.slipped}[what];
    }

    int look(int what) {
        int set = 0;
        int stones = 0;
        for (int i = 0; i < now.people.size(); i++) {
            set |= now.people.get(i).in ? 1 << i : 0;
        }
        for (int i = 0; i < 144; i++) {
            stones += now.cells[i % 12][i / 12] == 1 ? 1 : 0;
        }
        return new int[] {now.people.size(), set, now.minute, now.paid, stones, now.book.size(), now.state, lines[0], lines[1],
            lines[2], lines[3], past.size()}[what];
    }
}
