import java.util.Arrays;

/** A square that nobody may cross straight; ../shared/DOC.md says what each call answers. */
public final class WindingSquare {
    public static final int NONE = -1;

    private static final int WIDTH = 12;
    private static final int CELLS = 144;
    private static final int MOST_WALKERS = 16;
    private static final int MOST_HASTE = 9;
    private static final int MOST_MINUTE = 9999;
    private static final int MOST_MINUTES = 60;
    private static final int MOST_KEPT = 6;
    private static final int MOST_TAPE = 400;
    private static final int MOST_LINES = 16;
    private static final int FED = 20;
    private static final int MODULUS = 1000000007;

    private static final int BARE = 0;
    private static final int STONE = 1;
    private static final int SNOW = 2;
    private static final int SIGN = 3;

    private static final int LAW = 0;
    private static final int STONES = 1;
    private static final int WAYS = 2;
    private static final int WATCH = 3;

    private static final int[] DX = {0, 1, 0, -1};
    private static final int[] DY = {1, 0, -1, 0};

    private final Square square = new Square();
    private final Square aside = new Square();
    private final Square[] kept = new Square[MOST_KEPT];
    private int oldest;
    private int undoable;
    private final Texts told = new Texts();
    private final Texts draft = new Texts();
    private final Book lines = new Book();
    private final Rows rows = new Rows();
    private final Reader reader = new Reader();
    private final Day day = new Day(square, told, lines);
    private final Grid grid = new Grid(square.cells);
    private final Plane plane = new Plane();
    private boolean imaged;
    private final Square imageSquare = new Square();
    private final Texts imageTexts = new Texts();
    private final Book imageLines = new Book();
    private final Rows imageRows = new Rows();

    public WindingSquare() {
        for (int i = 0; i < MOST_KEPT; i++) {
            kept[i] = new Square();
        }
    }

    public int state(int v) {
        int was = square.draws;
        square.draws = v;
        forget();
        return was;
    }

    public int walker(int haste) {
        if (haste < 0 || haste > MOST_HASTE || square.count >= MOST_WALKERS) {
            return NONE;
        }
        int who = square.count;
        square.walkers[who].begin(haste);
        square.count++;
        forget();
        return who;
    }

    public boolean comes(int walker, int side, int k) {
        if (!square.has(walker) || square.walkers[walker].in || side < 0 || side > 3 || !inRow(k)) {
            return false;
        }
        int place = entry(side, k);
        if (square.cells[place] == STONE || square.whoAt(place) != NONE) {
            return false;
        }
        keep();
        square.walkers[walker].enter(side, place);
        lines.write(square, Book.CAME, walker, place);
        return true;
    }

    public boolean turn(int walker, int how) {
        if (!square.hasIn(walker) || how < 0 || how > 2) {
            return false;
        }
        keep();
        day.turnRound(walker, how);
        return true;
    }

    public boolean lay(int x, int y, int v) {
        if (!inRow(x) || !inRow(y) || v < BARE || v > SIGN) {
            return false;
        }
        int place = WIDTH * y + x;
        if (square.cells[place] == v || v == STONE && square.whoAt(place) != NONE) {
            return false;
        }
        keep();
        square.cells[place] = v;
        return true;
    }

    public int minutes(int n) {
        if (n < 1 || n > MOST_MINUTES || square.minute + n > MOST_MINUTE) {
            return NONE;
        }
        day.crossings = 0;
        for (int i = 0; i < n; i++) {
            keep();
            day.pass();
        }
        return day.crossings;
    }

    public int feed(int a, int b, int c, int d, int e) {
        if (reader.length + FED > MOST_TAPE) {
            return NONE;
        }
        reader.put(a);
        reader.put(b);
        reader.put(c);
        reader.put(d);
        reader.put(e);
        return reader.length;
    }

    public boolean end(int n) {
        if (n < 0 || n > reader.length) {
            return false;
        }
        reader.length = n;
        return true;
    }

    public int text(int k) {
        reader.scan();
        reader.length = 0;
        switch (k) {
            case LAW: return settle(LAW, draft.law.read(reader));
            case STONES: return settle(STONES, draft.readStones(reader));
            case WAYS: return settle(WAYS, draft.readWays(reader, square.count));
            case WATCH: return settle(WATCH, draft.readWatch(reader));
            default: return NONE;
        }
    }

    public int fault(int what) {
        switch (what) {
            case 0: return reader.fault;
            case 1: return reader.place;
            default: return NONE;
        }
    }

    public int of(int walker, int what) {
        if (!square.has(walker)) {
            return NONE - 1;
        }
        Walker w = square.walkers[walker];
        if (what >= 2 && what <= 7) {
            return w.in ? whereOf(w, what) : NONE;
        }
        switch (what) {
            case 0: return w.haste;
            case 1: return w.in ? 1 : 0;
            case 8: return w.crossed;
            case 9: return w.caught;
            case 10: return w.slipped;
            case 11: return day.ask(Reader.SLIPS, w);
            case 12: return day.ask(Reader.SEES, w);
            case 13: return day.ask(Reader.PAYS, w);
            default: return NONE - 1;
        }
    }

    public int cell(int x, int y, int what) {
        if (!inRow(x) || !inRow(y)) {
            return NONE - 1;
        }
        int place = WIDTH * y + x;
        switch (what) {
            case 0: return square.cells[place];
            case 1: return square.whoAt(place);
            default: return NONE - 1;
        }
    }

    public int book(int i, int what) {
        if (i < 0 || i >= square.written || what < 0 || what >= Book.PARTS) {
            return NONE;
        }
        return lines.part(i, what);
    }

    public int goes(int n, int what) {
        if (n < 1 || n > MOST_MINUTES || what < 0 || what > 3) {
            return NONE;
        }
        beginThought();
        for (int i = 0; i < n; i++) {
            day.pass();
        }
        int answer = square.sum(what);
        endThought();
        return answer;
    }

    public int over(int walker) {
        if (!square.hasIn(walker)) {
            return NONE;
        }
        int answer = NONE;
        beginThought();
        for (int i = 1; i <= MOST_MINUTES && answer == NONE; i++) {
            day.pass();
            if (!square.hasIn(walker)) {
                answer = i;
            }
        }
        endThought();
        return answer;
    }

    public int far(int from, int facing, int to, int t) {
        if (!grid.free(from) || !grid.free(to) || facing < 0 || facing > 3 || t < NONE || t > Grid.MOST_TURNS) {
            return NONE;
        }
        return t == NONE ? grid.least(from, facing, to) : grid.fewestSteps(from, facing, to, t);
    }

    public int with(int from, int facing, int to, int nt) {
        if (!grid.free(from) || !grid.free(to) || facing < 0 || facing > 3 || nt < 0) {
            return NONE;
        }
        int n = nt / 10;
        int t = nt % 10;
        if (n > Grid.MOST_STEPS || t > Grid.MOST_TURNS) {
            return NONE;
        }
        return grid.countRows(from, facing, to, n, t);
    }

    public int seen(int from, int to) {
        if (!isCell(from) || to != NONE && !isCell(to)) {
            return NONE;
        }
        if (to != NONE) {
            return grid.sees(from, to) ? 1 : 0;
        }
        int count = 0;
        for (int i = 0; i < CELLS; i++) {
            if (grid.sees(from, i)) {
                count++;
            }
        }
        return count;
    }

    public int known(int row, int v) {
        if (row < 0 || row > 1 || v < NONE || v > 2) {
            return NONE;
        }
        return rows.tellTurn(row, v);
    }

    public int one(int what) {
        switch (what) {
            case 0: return rows.alike() ? 1 : 0;
            case 1: return rows.unlikeRows();
            default: return NONE;
        }
    }

    public int move(int v) {
        return v < NONE || v > 2 ? NONE : rows.tellMove(v);
    }

    public int round(int what) {
        switch (what) {
            case 0: return rows.wound();
            case 1: return rows.home();
            case 2: return rows.again();
            case 3: return rows.about();
            default: return NONE - 99;
        }
    }

    public int folded(int n, int i, int what) {
        if (n < 1 || n > Plane.MOST_FOLDS || what < 0 || what > 2 || what == 0 && (i < 1 || i >= 1 << n)) {
            return NONE - 999;
        }
        return what == 0 ? plane.foldTurn(i) : plane.foldEnd(n, what == 1);
    }

    public int duel(int ab, int dx, int dy) {
        if (ab < 1 || ab / 10 > 5 || ab % 10 > 5) {
            return NONE;
        }
        if (Math.max(dx, dy) > Plane.MOST_AWAY || Math.min(dx, dy) < -Plane.MOST_AWAY) {
            return NONE;
        }
        return plane.paces(ab / 10, ab % 10, dx, dy);
    }

    public int ant(int n, int what) {
        if (n < 0 || n > Plane.MOST_ANT || what < 0 || what > 3) {
            return NONE - 9999;
        }
        return plane.antLeaves(n, what);
    }

    public int hooks(int n, int what) {
        if (n < 0 || n > Plane.MOST_YARD || what < 0 || what > 1) {
            return NONE;
        }
        return what == 0 ? plane.hooksAndSlabs(n) : plane.hooksAlone(n);
    }

    /** By Menger's theorem the most ways apart are as many as the fewest cells that part the sides. */
    public int apart(int what) {
        return what < 0 || what > 1 ? NONE : grid.fewestToPart();
    }

    public int gap(int row, int at) {
        if (row != NONE && (row < 0 || row > 7 || at < 0 || at > 30)) {
            return NONE;
        }
        return rows.tellGap(row, at);
    }

    public int hedge() {
        return rows.sideways();
    }

    public int meets(int a, int b) {
        if (!square.hasIn(a) || !square.hasIn(b)) {
            return NONE;
        }
        return a == b ? 0 : day.meeting(a, b);
    }

    public int pigeons(int what) {
        switch (what) {
            case 0: return grid.flocks(false);
            case 1: return grid.flocks(true);
            case 2: return grid.withOneBeside();
            default: return NONE;
        }
    }

    public int game(int x, int y, int what) {
        if (x < 0 || x > Plane.MOST_GAME || y < 0 || y > Plane.MOST_GAME) {
            return NONE;
        }
        switch (what) {
            case 0: return plane.value(x, y);
            case 1: return plane.wellGone(x, y);
            default: return NONE;
        }
    }

    public boolean undo() {
        if (undoable <= 0) {
            return false;
        }
        undoable--;
        square.copyFrom(kept[(oldest + undoable) % MOST_KEPT]);
        return true;
    }

    public boolean image(boolean taken) {
        if (taken) {
            imaged = true;
            imageSquare.copyFrom(square);
            imageTexts.copyFrom(told);
            imageLines.copyFrom(lines);
            imageRows.copyFrom(rows);
            return true;
        }
        if (!imaged) {
            return false;
        }
        square.copyFrom(imageSquare);
        told.copyFrom(imageTexts);
        lines.copyFrom(imageLines);
        rows.copyFrom(imageRows);
        forget();
        return true;
    }

    public int look(int what) {
        switch (what) {
            case 0: return square.count;
            case 1: return square.insideSet();
            case 2: return square.minute;
            case 3: return square.paid;
            case 4: return square.stones();
            case 5: return square.written;
            case 6: return square.draws;
            case 7: return told.counts[LAW];
            case 8: return told.counts[STONES];
            case 9: return told.counts[WAYS];
            case 10: return told.counts[WATCH];
            case 11: return undoable;
            default: return NONE;
        }
    }

    /** The draft takes what is read, so that a text with a fault leaves the told one as it was. */
    private int settle(int k, int count) {
        if (count == NONE) {
            return NONE;
        }
        draft.counts[k] = count;
        told.copyText(k, draft);
        if (k != LAW) {
            forget();
        }
        if (k == STONES) {
            square.pave(told.stones);
        } else if (k == WAYS) {
            square.beginWays();
        }
        return count;
    }

    private static int whereOf(Walker w, int what) {
        switch (what) {
            case 2: return w.x;
            case 3: return w.y;
            case 4: return w.facing;
            case 5: return w.turns;
            case 6: return w.signs;
            default: return w.side;
        }
    }

    private static boolean inRow(int v) {
        return v >= 0 && v < WIDTH;
    }

    private static boolean isCell(int v) {
        return v >= 0 && v < CELLS;
    }

    private static int entry(int side, int k) {
        switch (side) {
            case 0: return k;
            case 1: return WIDTH * k;
            case 2: return WIDTH * (WIDTH - 1) + k;
            default: return WIDTH * k + WIDTH - 1;
        }
    }

    private void keep() {
        if (undoable == MOST_KEPT) {
            oldest = (oldest + 1) % MOST_KEPT;
            undoable--;
        }
        kept[(oldest + undoable) % MOST_KEPT].copyFrom(square);
        undoable++;
    }

    private void forget() {
        undoable = 0;
    }

    private void beginThought() {
        aside.copyFrom(square);
        day.thought = true;
    }

    private void endThought() {
        day.thought = false;
        square.copyFrom(aside);
    }

    private static final class Walker {
        int haste;
        boolean in;
        int x;
        int y;
        int facing;
        int turns;
        int signs;
        int side;
        int step;
        /** Minutes of the word at step that are gone already. */
        int done;
        int crossed;
        int caught;
        int slipped;

        void begin(int newHaste) {
            haste = newHaste;
            in = false;
            crossed = 0;
            caught = 0;
            slipped = 0;
            beginWay();
        }

        void beginWay() {
            step = 0;
            done = 0;
        }

        void enter(int newSide, int place) {
            in = true;
            x = place % WIDTH;
            y = place / WIDTH;
            facing = newSide;
            side = newSide;
            turns = 0;
            signs = 0;
            beginWay();
        }

        int at() {
            return WIDTH * y + x;
        }

        /** The place one on, or NONE out of the square. */
        int ahead() {
            int nextX = x + DX[facing & 3];
            int nextY = y + DY[facing & 3];
            return inRow(nextX) && inRow(nextY) ? WIDTH * nextY + nextX : NONE;
        }

        void stand(int place) {
            x = place % WIDTH;
            y = place / WIDTH;
        }

        /** How: 0 left, 1 right, 2 back. */
        void face(int how) {
            facing = (facing + (how == 0 ? 3 : how)) & 3;
        }

        void copyFrom(Walker other) {
            haste = other.haste;
            in = other.in;
            x = other.x;
            y = other.y;
            facing = other.facing;
            turns = other.turns;
            signs = other.signs;
            side = other.side;
            step = other.step;
            done = other.done;
            crossed = other.crossed;
            caught = other.caught;
            slipped = other.slipped;
        }
    }

    /** All that a minute or a hand can change, so that a copy of it undoes them. */
    private static final class Square {
        final Walker[] walkers = new Walker[MOST_WALKERS];
        final int[] cells = new int[CELLS];
        int count;
        int minute;
        int paid;
        int draws;
        /** Lines of the book: those of an earlier moment are never written over while it can come back. */
        int written;

        Square() {
            for (int i = 0; i < MOST_WALKERS; i++) {
                walkers[i] = new Walker();
            }
        }

        void copyFrom(Square other) {
            System.arraycopy(other.cells, 0, cells, 0, CELLS);
            for (int i = 0; i < other.count; i++) {
                walkers[i].copyFrom(other.walkers[i]);
            }
            count = other.count;
            minute = other.minute;
            paid = other.paid;
            draws = other.draws;
            written = other.written;
        }

        boolean has(int who) {
            return who >= 0 && who < count;
        }

        boolean hasIn(int who) {
            return has(who) && walkers[who].in;
        }

        int whoAt(int place) {
            for (int i = 0; i < count; i++) {
                if (walkers[i].in && walkers[i].at() == place) {
                    return i;
                }
            }
            return NONE;
        }

        int insideSet() {
            int set = 0;
            for (int i = 0; i < count; i++) {
                if (walkers[i].in) {
                    set |= 1 << i;
                }
            }
            return set;
        }

        int stones() {
            int stones = 0;
            for (int i = 0; i < CELLS; i++) {
                if (cells[i] == STONE) {
                    stones++;
                }
            }
            return stones;
        }

        /** What 0 those in, 1 crossed of all, 2 caught of all, 3 paid. */
        int sum(int what) {
            if (what == 0) {
                return Integer.bitCount(insideSet());
            }
            if (what == 3) {
                return paid;
            }
            int sum = 0;
            for (int i = 0; i < count; i++) {
                sum += what == 1 ? walkers[i].crossed : walkers[i].caught;
            }
            return sum;
        }

        void pave(int[] stones) {
            System.arraycopy(stones, 0, cells, 0, CELLS);
            for (int i = 0; i < count; i++) {
                if (walkers[i].in && cells[walkers[i].at()] == STONE) {
                    walkers[i].in = false;
                }
            }
        }

        void beginWays() {
            for (int i = 0; i < count; i++) {
                walkers[i].beginWay();
            }
        }

        int drawOf1000() {
            draws = 1664525 * draws + 1013904223;
            return (draws >>> 8) % 1000;
        }
    }

    private static final class Book {
        static final int PARTS = 4;
        static final int MOST = 150;
        static final int CAME = 0;
        static final int TURNED = 1;
        static final int SLIPPED = 2;
        static final int OVER = 3;
        static final int CAUGHT = 4;
        static final int STAYED = 5;

        private final int[] parts = new int[PARTS * MOST];

        void write(Square square, int what, int who, int much) {
            if (square.written >= MOST) {
                return;
            }
            int at = PARTS * square.written;
            parts[at] = square.minute;
            parts[at + 1] = what;
            parts[at + 2] = who;
            parts[at + 3] = much;
            square.written++;
        }

        int part(int line, int what) {
            return parts[PARTS * line + what];
        }

        void copyFrom(Book other) {
            System.arraycopy(other.parts, 0, parts, 0, PARTS * MOST);
        }
    }

    /** The tape, its tokens and the fault of the latest reading. */
    private static final class Reader {
        static final int END = 0;
        static final int BAD = 1;
        static final int NUMBER = 2;
        /** Keywords are numbered from here, above all signs, which are their own numbers. */
        static final int SLIPS = 128;
        static final int SEES = 129;
        static final int PAYS = 130;
        static final int WHEN = 131;
        static final int OR = 132;
        static final int AND = 133;
        static final int NOT = 134;
        static final int HASTE = 135;
        static final int SNOWY = 141;
        static final int WATCHED = 143;
        static final int MINUTE = 144;
        static final int STONY = 145;
        static final int SIGNED = 146;
        static final int BARED = 147;
        static final int TO = 148;
        static final int WALKER = 149;
        static final int AHEAD = 150;
        static final int LEFT = 151;
        static final int WAIT = 154;
        static final int FROM = 155;
        static final int BLIND = 156;
        /** One table serves all texts: a word of another text can't stand anyway, with the same fault. */
        private static final String KEYWORDS = "slips sees pays when or and not haste turns signs x y facing snow inside watch minute stone sign bare to walker ahead left right back wait from blind ";
        private static final String SIGNS = ";+-*/()<=>";
        private static final int MOST_DIGITS = 4;

        int length;
        int fault;
        int place = NONE;
        private final int[] tape = new int[MOST_TAPE];
        private final int[] kinds = new int[MOST_TAPE + 1];
        private final int[] numbers = new int[MOST_TAPE + 1];
        private final int[] places = new int[MOST_TAPE + 1];
        private int at;

        void put(int four) {
            for (int shift = 24; shift >= 0 && length < MOST_TAPE; shift -= 8) {
                tape[length] = four >>> shift & 255;
                length++;
            }
        }

        /** Each token takes one byte at the least, so that the loop goes on. */
        void scan() {
            fault = 0;
            place = NONE;
            at = 0;
            int n = 0;
            int next;
            for (int i = 0; i < length; i = next) {
                next = i + 1;
                int c = tape[i];
                if (c == ' ' || c == 10) {
                    continue;
                }
                places[n] = i;
                if (isLetter(c)) {
                    next = Math.max(next, behindLetters(i));
                    kinds[n] = keyword(i, next);
                } else if (isDigit(c)) {
                    next = Math.max(next, behindDigits(i));
                    kinds[n] = next - i > MOST_DIGITS ? BAD : NUMBER;
                    numbers[n] = valueOf(i, next);
                } else {
                    kinds[n] = SIGNS.indexOf((char) c) < 0 ? BAD : c;
                }
                n++;
            }
            kinds[n] = END;
            places[n] = length;
        }

        int kind() {
            return kinds[at];
        }

        void next() {
            if (at < MOST_TAPE) {
                at++;
            }
        }

        boolean fail(int what) {
            fault = what;
            place = places[at];
            return false;
        }

        boolean take(int kind) {
            if (kinds[at] != kind) {
                return fail(1);
            }
            next();
            return true;
        }

        /** Whether a keyword that fits can stand here as one more behind so many, of so many at most. */
        boolean opens(boolean fits, int before, int most) {
            if (!fits) {
                return fail(1);
            }
            return before < most || fail(3);
        }

        /** The number that stands here; NONE with a fault. */
        int number(int low, int high) {
            boolean stands = kinds[at] == NUMBER;
            int v = stands ? numbers[at] : NONE;
            if (!stands || v < low || v > high) {
                fail(stands ? 2 : 1);
                return NONE;
            }
            next();
            return v;
        }

        private static boolean isLetter(int c) {
            return c >= 'a' && c <= 'z' || c >= 'A' && c <= 'Z';
        }

        private static boolean isDigit(int c) {
            return c >= '0' && c <= '9';
        }

        private int behindLetters(int from) {
            int i = from;
            while (i < length && isLetter(tape[i])) {
                i++;
            }
            return i;
        }

        private int behindDigits(int from) {
            int i = from;
            while (i < length && isDigit(tape[i])) {
                i++;
            }
            return i;
        }

        private int valueOf(int from, int behind) {
            int v = 0;
            for (int i = from; i < behind; i++) {
                v = 10 * v + tape[i] - '0';
            }
            return v;
        }

        private int keyword(int from, int behind) {
            int key = SLIPS;
            int i = from;
            boolean alike = true;
            for (int k = 0; k < KEYWORDS.length(); k++) {
                char c = KEYWORDS.charAt(k);
                if (c != ' ') {
                    alike = alike && i < behind && tape[i] == c;
                    i++;
                } else if (alike && i == behind) {
                    return key;
                } else {
                    key++;
                    i = from;
                    alike = true;
                }
            }
            return BAD;
        }
    }

    /** The law as a row of codes, each behind what it works on, so that it is asked without recursion. */
    private static final class Law {
        private static final int MOST_OPEN = 8;
        private static final int MOST_STACK = 64;
        /** Codes below are numbers, those above tokens that work. */
        private static final int TOKENS = 10000;
        private static final int ANY = 9999;

        int lines;
        private final int[] words = new int[MOST_LINES];
        private final int[] sumEnds = new int[MOST_LINES];
        private final int[] ends = new int[MOST_LINES];
        private final int[] codes = new int[MOST_TAPE];
        private int size;
        private final int[] stack = new int[MOST_STACK];

        /** How many lines; NONE with a fault. */
        int read(Reader r) {
            size = 0;
            for (lines = 0; lines <= MOST_LINES && r.kind() != Reader.END; lines++) {
                int word = r.kind();
                if (!r.opens(word >= Reader.SLIPS && word <= Reader.PAYS, lines, MOST_LINES)) {
                    return NONE;
                }
                r.next();
                if (!readSum(r)) {
                    return NONE;
                }
                words[lines] = word;
                sumEnds[lines] = size;
                if (r.kind() == Reader.WHEN) {
                    r.next();
                    if (!readCondition(r, 0)) {
                        return NONE;
                    }
                }
                ends[lines] = size;
                if (!r.take(';')) {
                    return NONE;
                }
            }
            return lines;
        }

        /** Facts in the order of the keywords from haste to minute. */
        int tells(int word, int[] facts) {
            int told = without(word, facts);
            int from = 0;
            for (int i = 0; i < lines; i++) {
                if (words[i] == word && (sumEnds[i] == ends[i] || run(sumEnds[i], ends[i], facts) != 0)) {
                    told = run(from, sumEnds[i], facts);
                    break;
                }
                from = ends[i];
            }
            return Math.max(0, Math.min(told, word == Reader.PAYS ? 99 : 1000));
        }

        void copyFrom(Law other) {
            lines = other.lines;
            size = other.size;
            System.arraycopy(other.words, 0, words, 0, MOST_LINES);
            System.arraycopy(other.sumEnds, 0, sumEnds, 0, MOST_LINES);
            System.arraycopy(other.ends, 0, ends, 0, MOST_LINES);
            System.arraycopy(other.codes, 0, codes, 0, MOST_TAPE);
        }

        /** C by and, or; an or waits until the ands behind it are whole. */
        private boolean readCondition(Reader r, int open) {
            boolean waiting = false;
            boolean good = readSingle(r, open);
            for (int i = 0; i < MOST_TAPE && good; i++) {
                int word = r.kind();
                if (word != Reader.AND && waiting) {
                    emit(TOKENS + Reader.OR);
                }
                if (word != Reader.AND && word != Reader.OR) {
                    return true;
                }
                r.next();
                good = readSingle(r, open);
                if (word == Reader.AND) {
                    emit(TOKENS + Reader.AND);
                } else {
                    waiting = true;
                }
            }
            return false;
        }

        private boolean readSingle(Reader r, int open) {
            int kind = r.kind();
            if (kind == Reader.NOT || kind == '(') {
                if (!r.opens(true, open, MOST_OPEN)) {
                    return false;
                }
                r.next();
                if (kind == '(') {
                    return readCondition(r, open + 1) && r.take(')');
                }
                if (!readSingle(r, open + 1)) {
                    return false;
                }
                emit(TOKENS + Reader.NOT);
                return true;
            }
            if (!readSum(r)) {
                return false;
            }
            int sign = r.kind();
            if (sign != '<' && sign != '=' && sign != '>') {
                return r.fail(1);
            }
            r.next();
            if (!readSum(r)) {
                return false;
            }
            emit(TOKENS + sign);
            return true;
        }

        /** A sign that adds waits until the product behind it is whole. */
        private boolean readSum(Reader r) {
            int waiting = NONE;
            boolean good = readUnit(r, false);
            for (int i = 0; i < MOST_TAPE && good; i++) {
                int sign = r.kind();
                boolean joins = sign == '*' || sign == '/';
                if (!joins && waiting != NONE) {
                    emit(TOKENS + waiting);
                }
                if (!joins && sign != '+' && sign != '-') {
                    return true;
                }
                r.next();
                good = readUnit(r, sign == '/');
                if (joins) {
                    emit(TOKENS + sign);
                } else {
                    waiting = sign;
                }
            }
            return false;
        }

        private boolean readUnit(Reader r, boolean divides) {
            int kind = r.kind();
            if (!divides && kind >= Reader.HASTE && kind <= Reader.MINUTE) {
                r.next();
                emit(TOKENS + kind);
                return true;
            }
            int v = r.number(divides ? 1 : 0, ANY);
            emit(v);
            return v != NONE;
        }

        private void emit(int code) {
            if (size < MOST_TAPE) {
                codes[size] = code;
                size++;
            }
        }

        private static int without(int word, int[] facts) {
            switch (word) {
                case Reader.SLIPS: return 300 * facts[Reader.SNOWY - Reader.HASTE] + 20 * facts[0];
                case Reader.SEES: return 200 * facts[Reader.WATCHED - Reader.HASTE];
                default: return 10 - facts[1];
            }
        }

        private int run(int from, int behind, int[] facts) {
            int top = 0;
            for (int i = from; i < behind && top < MOST_STACK; i++) {
                int code = codes[i] - TOKENS;
                if (code < 0) {
                    stack[top] = codes[i];
                    top++;
                } else if (code >= Reader.HASTE && code <= Reader.MINUTE) {
                    stack[top] = facts[code - Reader.HASTE];
                    top++;
                } else if (code == Reader.NOT && top > 0) {
                    stack[top - 1] = 1 - stack[top - 1];
                } else if (top > 1) {
                    top--;
                    stack[top - 1] = join(code, stack[top - 1], stack[top]);
                }
            }
            return stack[0];
        }

        private static int join(int code, int a, int b) {
            switch (code) {
                case '+': return a + b;
                case '-': return a - b;
                case '*': return a * b;
                case '/': return b == 0 ? 0 : a / b;
                case '<': return a < b ? 1 : 0;
                case '=': return a == b ? 1 : 0;
                case '>': return a > b ? 1 : 0;
                case Reader.AND: return a & b;
                default: return a | b;
            }
        }
    }

    private static final class Texts {
        private static final int MOST_WORDS = 12;
        private static final int MOST_N = 11;

        final Law law = new Law();
        final int[] counts = new int[4];
        final int[] stones = new int[CELLS];
        private final int[] wayLengths = new int[MOST_WALKERS];
        private final int[] words = new int[MOST_WALKERS * MOST_WORDS];
        private final int[] amounts = new int[MOST_WALKERS * MOST_WORDS];
        private final int[] since = new int[MOST_LINES];
        private final int[] watchers = new int[MOST_LINES];

        /** This and the next two: how many lines; NONE with a fault. */
        int readStones(Reader r) {
            Arrays.fill(stones, BARE);
            int n = 0;
            for (; n <= MOST_LINES && r.kind() != Reader.END; n++) {
                int v = stoneOf(r.kind());
                if (!r.opens(v != NONE, n, MOST_LINES)) {
                    return NONE;
                }
                r.next();
                if (!readArea(r, v) || !r.take(';')) {
                    return NONE;
                }
            }
            return n;
        }

        int readWays(Reader r, int walkers) {
            Arrays.fill(wayLengths, 0);
            int n = 0;
            for (; n <= MOST_LINES && r.kind() != Reader.END; n++) {
                if (!r.opens(r.kind() == Reader.WALKER, n, MOST_LINES)) {
                    return NONE;
                }
                r.next();
                int who = r.number(0, walkers - 1);
                if (who == NONE || !readWay(r, who)) {
                    return NONE;
                }
            }
            return n;
        }

        int readWatch(Reader r) {
            int n = 0;
            for (; n <= MOST_LINES && r.kind() != Reader.END; n++) {
                if (!r.opens(r.kind() == Reader.FROM, n, MOST_LINES)) {
                    return NONE;
                }
                r.next();
                since[n] = r.number(0, 999);
                if (since[n] == NONE) {
                    return NONE;
                }
                watchers[n] = readWatchers(r);
                if (watchers[n] == NONE || !r.take(';')) {
                    return NONE;
                }
            }
            return n;
        }

        int watchAt(int minute) {
            for (int i = counts[WATCH] - 1; i >= 0; i--) {
                if (since[i] <= minute) {
                    return watchers[i];
                }
            }
            return 0;
        }

        /** The word of this minute; behind the last, ahead. */
        int nextWord(int who, Walker w) {
            if (w.step >= wayLengths[who]) {
                return Reader.AHEAD;
            }
            int at = MOST_WORDS * who + w.step;
            w.done++;
            if (w.done >= amounts[at]) {
                w.step++;
                w.done = 0;
            }
            return words[at];
        }

        void copyText(int k, Texts other) {
            counts[k] = other.counts[k];
            switch (k) {
                case LAW:
                    law.copyFrom(other.law);
                    break;
                case STONES:
                    System.arraycopy(other.stones, 0, stones, 0, CELLS);
                    break;
                case WAYS:
                    System.arraycopy(other.wayLengths, 0, wayLengths, 0, MOST_WALKERS);
                    System.arraycopy(other.words, 0, words, 0, MOST_WALKERS * MOST_WORDS);
                    System.arraycopy(other.amounts, 0, amounts, 0, MOST_WALKERS * MOST_WORDS);
                    break;
                default:
                    System.arraycopy(other.since, 0, since, 0, MOST_LINES);
                    System.arraycopy(other.watchers, 0, watchers, 0, MOST_LINES);
                    break;
            }
        }

        void copyFrom(Texts other) {
            for (int k = LAW; k <= WATCH; k++) {
                copyText(k, other);
            }
        }

        private static int stoneOf(int kind) {
            switch (kind) {
                case Reader.BARED: return BARE;
                case Reader.STONY: return STONE;
                case Reader.SNOWY: return SNOW;
                case Reader.SIGNED: return SIGN;
                default: return NONE;
            }
        }

        private boolean readArea(Reader r, int v) {
            int from = readPlace(r);
            if (from == NONE) {
                return false;
            }
            int to = from;
            if (r.kind() == Reader.TO) {
                r.next();
                to = readPlace(r);
                if (to == NONE) {
                    return false;
                }
            }
            int lowX = Math.min(from % WIDTH, to % WIDTH);
            int highX = Math.max(from % WIDTH, to % WIDTH);
            int lowY = Math.min(from, to) / WIDTH;
            int highY = Math.max(from, to) / WIDTH;
            for (int y = lowY; y <= highY; y++) {
                for (int x = lowX; x <= highX; x++) {
                    stones[WIDTH * y + x] = v;
                }
            }
            return true;
        }

        private int readPlace(Reader r) {
            int x = r.number(0, WIDTH - 1);
            int y = x == NONE ? NONE : r.number(0, WIDTH - 1);
            return y == NONE ? NONE : WIDTH * y + x;
        }

        private boolean readWay(Reader r, int who) {
            int n = 0;
            for (; n <= MOST_WORDS && r.kind() != ';'; n++) {
                int word = r.kind();
                if (!r.opens(word >= Reader.AHEAD && word <= Reader.WAIT, n, MOST_WORDS)) {
                    return false;
                }
                r.next();
                int amount = word == Reader.AHEAD || word == Reader.WAIT ? r.number(1, MOST_N) : 1;
                if (amount == NONE) {
                    return false;
                }
                words[MOST_WORDS * who + n] = word;
                amounts[MOST_WORDS * who + n] = amount;
            }
            wayLengths[who] = n;
            return r.take(';');
        }

        private int readWatchers(Reader r) {
            if (r.kind() == Reader.BLIND) {
                r.next();
                return 0;
            }
            return r.take(Reader.WATCHED) ? r.number(1, 9) : NONE;
        }
    }

    /** How a minute goes, with draws or in thought. */
    private static final class Day {
        private static final int FINE = 50;
        private static final int LIKELY = 500;
        private static final int FACTS = 10;
        private static final int STAYS = 0;
        private static final int ON = 1;
        private static final int OUT = 2;

        boolean thought;
        int crossings;
        private final Square square;
        private final Texts texts;
        private final Book book;
        private final int[] facts = new int[FACTS];
        private final Walker first = new Walker();
        private final Walker second = new Walker();

        Day(Square square, Texts texts, Book book) {
            this.square = square;
            this.texts = texts;
            this.book = book;
        }

        void pass() {
            for (int i = 0; i < square.count; i++) {
                if (square.walkers[i].in) {
                    act(i);
                }
            }
            square.minute++;
        }

        /** How: 0 left, 1 right, 2 back. */
        void turnRound(int who, int how) {
            Walker w = square.walkers[who];
            int quarters = how == 2 ? 2 : 1;
            w.face(how);
            w.turns += quarters;
            if (square.cells[w.at()] == SIGN) {
                w.signs += quarters;
            }
            book.write(square, Book.TURNED, who, w.at());
        }

        /** What the law tells of him for a word, as he stands. */
        int ask(int word, Walker w) {
            Arrays.fill(facts, 0);
            facts[0] = w.haste;
            if (w.in) {
                facts[1] = w.turns;
                facts[2] = w.signs;
                facts[3] = w.x;
                facts[4] = w.y;
                facts[5] = w.facing;
                facts[6] = square.cells[w.at()] == SNOW ? 1 : 0;
            }
            facts[7] = square.sum(0);
            facts[8] = texts.watchAt(square.minute);
            facts[9] = square.minute;
            return texts.law.tells(word, facts);
        }

        /** Behind how many minutes two meet who go as if they were alone. */
        int meeting(int a, int b) {
            first.copyFrom(square.walkers[a]);
            second.copyFrom(square.walkers[b]);
            for (int i = 1; i <= MOST_MINUTES; i++) {
                actAlone(a, first);
                actAlone(b, second);
                if (!first.in || !second.in) {
                    return NONE;
                }
                if (first.at() == second.at()) {
                    return i;
                }
            }
            return NONE;
        }

        private void act(int who) {
            Walker w = square.walkers[who];
            int word = texts.nextWord(who, w);
            if (word == Reader.WAIT) {
                return;
            }
            if (word != Reader.AHEAD) {
                turnRound(who, word - Reader.LEFT);
                return;
            }
            int came = goOn(who);
            if (came == ON && square.cells[w.at()] == SNOW && falls(ask(Reader.SLIPS, w))) {
                w.slipped++;
                book.write(square, Book.SLIPPED, who, w.at());
                came = goOn(who);
            }
            if (came == OUT) {
                leave(who);
            }
        }

        private int goOn(int who) {
            Walker w = square.walkers[who];
            int place = w.ahead();
            if (place == NONE) {
                return OUT;
            }
            if (square.cells[place] == STONE || square.whoAt(place) != NONE) {
                book.write(square, Book.STAYED, who, w.at());
                return STAYS;
            }
            w.stand(place);
            return ON;
        }

        private void leave(int who) {
            Walker w = square.walkers[who];
            boolean backOut = w.facing == (w.side + 2) % 4;
            if (!backOut) {
                crossings++;
                w.crossed++;
                square.paid += ask(Reader.PAYS, w);
                book.write(square, Book.OVER, who, w.turns);
                if (w.turns == 0 && falls(ask(Reader.SEES, w))) {
                    w.caught++;
                    square.paid += FINE;
                    book.write(square, Book.CAUGHT, who, FINE);
                }
            }
            w.in = false;
        }

        private boolean falls(int chance) {
            if (thought) {
                return chance >= LIKELY;
            }
            return chance > 0 && square.drawOf1000() < chance;
        }

        private void actAlone(int who, Walker w) {
            int word = texts.nextWord(who, w);
            if (word == Reader.WAIT) {
                return;
            }
            if (word != Reader.AHEAD) {
                w.face(word - Reader.LEFT);
                return;
            }
            int place = w.ahead();
            if (place == NONE) {
                w.in = false;
            } else if (square.cells[place] != STONE) {
                w.stand(place);
            }
        }
    }

    /** What is told for thought: the rows of turns, the moves and the gaps of the hedge. */
    private static final class Rows {
        private static final int MOST_TURNS = 12;
        private static final int MOST_MOVES = 24;
        private static final int MOST_GAPS = 8;
        private static final int FAR_OFF = 1000000;
        /** Wide enough for a walk of all moves to each side of the origin. */
        private static final int SPAN = 2 * MOST_MOVES + 1;

        private final int[] turns = new int[2 * MOST_TURNS];
        private final int[] sizes = new int[2];
        private final int[] moves = new int[MOST_MOVES];
        private int moveCount;
        private final int[] gapRows = new int[MOST_GAPS];
        private final int[] gapsAt = new int[MOST_GAPS];
        private int gapCount;
        private final int[] best = new int[MOST_GAPS];
        private final int[] been = new int[MOST_MOVES + 1];
        private int endX;
        private int endY;
        private int twiceArea;

        int tellTurn(int row, int v) {
            if (v == NONE) {
                sizes[row] = 0;
                return 0;
            }
            if (sizes[row] >= MOST_TURNS) {
                return NONE;
            }
            turns[MOST_TURNS * row + sizes[row]] = v;
            sizes[row]++;
            return sizes[row];
        }

        int tellMove(int v) {
            if (v == NONE) {
                moveCount = 0;
                return 0;
            }
            if (moveCount >= MOST_MOVES) {
                return NONE;
            }
            moves[moveCount] = v;
            moveCount++;
            return moveCount;
        }

        int tellGap(int row, int at) {
            if (row == NONE) {
                gapCount = 0;
                return 0;
            }
            if (gapCount >= MOST_GAPS) {
                return NONE;
            }
            gapRows[gapCount] = row;
            gapsAt[gapCount] = at;
            gapCount++;
            return gapCount;
        }

        boolean alike() {
            return sizes[0] == sizes[1] && (goesRoundTo(MOST_TURNS, false) || goesRoundTo(MOST_TURNS, true));
        }

        int unlikeRows() {
            int period = 1;
            while (period < sizes[0] && !isRotation(period, 0, false)) {
                period++;
            }
            return sizes[0] == 0 || goesRoundTo(0, true) ? period : 2 * period;
        }

        int wound() {
            int sum = 0;
            for (int i = 0; i < moveCount; i++) {
                sum += moves[i] == 2 ? 1 : -moves[i];
            }
            return sum;
        }

        int home() {
            walk();
            return Math.abs(endX) + Math.abs(endY);
        }

        int again() {
            int steps = walk();
            int count = 0;
            for (int i = 0; i <= steps; i++) {
                if (firstTime(i) && comesBack(i, steps)) {
                    count++;
                }
            }
            return count;
        }

        int about() {
            walk();
            return endX == 0 && endY == 0 ? Math.abs(twiceArea) : NONE;
        }

        int sideways() {
            int before = NONE;
            for (int row = 0; row < MOST_GAPS; row++) {
                boolean told = false;
                for (int i = 0; i < gapCount; i++) {
                    if (gapRows[i] == row) {
                        best[i] = fewestTo(gapsAt[i], before);
                        told = true;
                    }
                }
                if (told) {
                    before = row;
                }
            }
            return fewestTo(0, before);
        }

        void copyFrom(Rows other) {
            System.arraycopy(other.turns, 0, turns, 0, 2 * MOST_TURNS);
            System.arraycopy(other.sizes, 0, sizes, 0, 2);
            System.arraycopy(other.moves, 0, moves, 0, MOST_MOVES);
            System.arraycopy(other.gapRows, 0, gapRows, 0, MOST_GAPS);
            System.arraycopy(other.gapsAt, 0, gapsAt, 0, MOST_GAPS);
            moveCount = other.moveCount;
            gapCount = other.gapCount;
        }

        /** Whether the row of the same size that begins at target comes of the first one. */
        private boolean goesRoundTo(int target, boolean swapped) {
            int size = sizes[0];
            boolean found = size == 0;
            for (int k = 0; k < size && !found; k++) {
                found = isRotation(k, target, swapped);
            }
            return found;
        }

        private boolean isRotation(int k, int target, boolean swapped) {
            int size = sizes[0];
            for (int i = 0; i < size; i++) {
                int v = turns[(i + k) % size];
                if (swapped && v < 2) {
                    v = 1 - v;
                }
                if (turns[target + i] != v) {
                    return false;
                }
            }
            return true;
        }

        /** Notes each place come to; how many steps there were. */
        private int walk() {
            int facing = 0;
            int steps = 0;
            endX = 0;
            endY = 0;
            twiceArea = 0;
            been[0] = 0;
            for (int i = 0; i < moveCount; i++) {
                if (moves[i] != 0) {
                    facing = (facing + (moves[i] == 2 ? 1 : 3)) & 3;
                    continue;
                }
                twiceArea += endX * DY[facing] - endY * DX[facing];
                endX += DX[facing];
                endY += DY[facing];
                steps++;
                been[steps] = SPAN * endY + endX;
            }
            return steps;
        }

        private boolean firstTime(int i) {
            for (int j = 0; j < i; j++) {
                if (been[j] == been[i]) {
                    return false;
                }
            }
            return true;
        }

        private boolean comesBack(int i, int steps) {
            for (int j = i + 1; j <= steps; j++) {
                if (been[j] == been[i]) {
                    return true;
                }
            }
            return false;
        }

        /** From the gaps of the row before, or from 0 where there is none. */
        private int fewestTo(int at, int before) {
            if (before == NONE) {
                return at;
            }
            int fewest = FAR_OFF;
            for (int i = 0; i < gapCount; i++) {
                if (gapRows[i] == before) {
                    fewest = Math.min(fewest, best[i] + Math.abs(gapsAt[i] - at));
                }
            }
            return fewest;
        }
    }

    /** What is asked of the cells in thought; walkers do not count. */
    private static final class Grid {
        static final int MOST_STEPS = 20;
        static final int MOST_TURNS = 6;
        /** A cell with a facing: 144 times the facing and the cell. */
        private static final int STANDS = 4 * CELLS;
        private static final int FAR_OFF = 1000000;

        private final int[] cells;
        private final int[] costs = new int[STANDS];
        private final int[] turned = new int[STANDS];
        private final int[] queue = new int[STANDS];
        private final int[] counts = new int[(MOST_TURNS + 1) * STANDS];
        private final int[] stepped = new int[(MOST_TURNS + 1) * STANDS];
        private final int[] lefts = new int[4];
        private final int[] rights = new int[4];

        Grid(int[] cells) {
            this.cells = cells;
        }

        boolean free(int cell) {
            return isCell(cell) && cells[cell] != STONE;
        }

        int least(int from, int facing, int to) {
            Arrays.fill(costs, NONE);
            int start = CELLS * facing + from;
            costs[start] = 0;
            queue[0] = start;
            int size = 1;
            for (int i = 0; i < size; i++) {
                int stand = queue[i];
                if (stand % CELLS == to) {
                    return costs[stand];
                }
                for (int k = 0; k < 3; k++) {
                    int next = neighbour(stand, k);
                    if (next != NONE && costs[next] == NONE && size < STANDS) {
                        costs[next] = costs[stand] + 1;
                        queue[size] = next;
                        size++;
                    }
                }
            }
            return NONE;
        }

        int fewestSteps(int from, int facing, int to, int turns) {
            Arrays.fill(costs, FAR_OFF);
            costs[CELLS * facing + from] = 0;
            goStraight();
            for (int i = 0; i < turns; i++) {
                turnOnce();
                goStraight();
            }
            int fewest = FAR_OFF;
            for (int f = 0; f < 4; f++) {
                fewest = Math.min(fewest, costs[CELLS * f + to]);
            }
            return fewest >= FAR_OFF ? NONE : fewest;
        }

        int countRows(int from, int facing, int to, int steps, int turns) {
            Arrays.fill(stepped, 0);
            stepped[CELLS * facing + from] = 1;
            turnEverywhere(turns);
            for (int i = 0; i < steps; i++) {
                stepOn(turns);
                turnEverywhere(turns);
            }
            int sum = 0;
            for (int f = 0; f < 4; f++) {
                sum = plus(sum, counts[STANDS * turns + CELLS * f + to]);
            }
            return sum;
        }

        boolean sees(int from, int to) {
            int dx = to % WIDTH - from % WIDTH;
            int dy = to / WIDTH - from / WIDTH;
            int length = Math.max(Math.abs(dx), Math.abs(dy));
            for (int i = 1; i < length; i++) {
                int x = from % WIDTH + nearest(dx * i, length);
                int y = from / WIDTH + nearest(dy * i, length);
                if (cells[WIDTH * y + x] == STONE) {
                    return false;
                }
            }
            return true;
        }

        /**
         * Ways by the sides are parted by a chain of stones by sides and corners from the left to the right:
         * the chain that needs the fewest new stones is looked for.
         */
        int fewestToPart() {
            Arrays.fill(costs, FAR_OFF);
            boolean changed = true;
            for (int round = 0; round < CELLS && changed; round++) {
                changed = false;
                for (int i = 0; i < CELLS; i++) {
                    int cost = cheapestBeside(i) + (cells[i] == STONE ? 0 : 1);
                    if (cost < costs[i]) {
                        costs[i] = cost;
                        changed = true;
                    }
                }
            }
            int fewest = WIDTH;
            for (int y = 0; y < WIDTH; y++) {
                fewest = Math.min(fewest, costs[WIDTH * y + WIDTH - 1]);
            }
            return fewest;
        }

        /** How many flocks, or how great the greatest is. */
        int flocks(boolean greatest) {
            Arrays.fill(costs, NONE);
            int count = 0;
            int most = 0;
            for (int i = 0; i < CELLS; i++) {
                if (free(i) && costs[i] == NONE) {
                    count++;
                    most = Math.max(most, flockFrom(i));
                }
            }
            return greatest ? most : count;
        }

        int withOneBeside() {
            int count = 0;
            for (int i = 0; i < CELLS; i++) {
                int beside = 0;
                for (int f = 0; f < 4; f++) {
                    beside += onward(i, f) == NONE ? 0 : 1;
                }
                if (free(i) && beside == 1) {
                    count++;
                }
            }
            return count;
        }

        /** The cell one on, or NONE where none can go. */
        private int onward(int cell, int facing) {
            int x = cell % WIDTH + DX[facing & 3];
            int y = cell / WIDTH + DY[facing & 3];
            if (!inRow(x) || !inRow(y)) {
                return NONE;
            }
            int to = WIDTH * y + x;
            return cells[to] == STONE ? NONE : to;
        }

        /** K: 0 a step, 1 a turn to the right, 2 a turn to the left. */
        private int neighbour(int stand, int k) {
            int cell = stand % CELLS;
            int facing = stand / CELLS;
            if (k == 0) {
                int to = onward(cell, facing);
                return to == NONE ? NONE : CELLS * facing + to;
            }
            return CELLS * (facing + 2 * k - 1 & 3) + cell;
        }

        /** Goes by the cells in such an order that the one behind is always settled. */
        private void goStraight() {
            for (int f = 0; f < 4; f++) {
                for (int i = 0; i < CELLS; i++) {
                    int cell = f < 2 ? i : CELLS - 1 - i;
                    int to = onward(cell, f);
                    if (to != NONE) {
                        costs[CELLS * f + to] = Math.min(costs[CELLS * f + to], costs[CELLS * f + cell] + 1);
                    }
                }
            }
        }

        private void turnOnce() {
            for (int i = 0; i < STANDS; i++) {
                turned[i] = Math.min(costs[neighbour(i, 1)], costs[neighbour(i, 2)]);
            }
            System.arraycopy(turned, 0, costs, 0, STANDS);
        }

        private void turnEverywhere(int turns) {
            for (int i = 0; i < CELLS; i++) {
                turnAt(i, turns);
            }
        }

        /**
         * Between two steps stand only lefts or only rights, so both are carried apart: by the sum of turns and
         * facing, which a left leaves as it is, and by their difference, which a right leaves as it is.
         */
        private void turnAt(int cell, int turns) {
            Arrays.fill(lefts, 0);
            Arrays.fill(rights, 0);
            for (int i = 0; i < 4 * (turns + 1); i++) {
                int facing = i % 4;
                int used = i / 4;
                int left = facing + used & 3;
                int right = facing - used & 3;
                int v = stepped[CELLS * i + cell];
                counts[CELLS * i + cell] = plus(v, plus(lefts[left], rights[right]));
                lefts[left] = plus(lefts[left], v);
                rights[right] = plus(rights[right], v);
            }
        }

        private void stepOn(int turns) {
            Arrays.fill(stepped, 0);
            for (int i = 0; i < STANDS * (turns + 1); i++) {
                if (counts[i] != 0) {
                    int to = onward(i % CELLS, i % STANDS / CELLS);
                    if (to != NONE) {
                        stepped[i - i % CELLS + to] = counts[i];
                    }
                }
            }
        }

        private static int plus(int a, int b) {
            int sum = a + b;
            return sum >= MODULUS ? sum - MODULUS : sum;
        }

        /** Halves upwards; the divisor is above 0. */
        private static int nearest(int above, int below) {
            return below <= 0 ? 0 : Math.floorDiv(2 * above + below, 2 * below);
        }

        private int cheapestBeside(int cell) {
            int x = cell % WIDTH;
            int y = cell / WIDTH;
            if (x == 0) {
                return 0;
            }
            int cheapest = FAR_OFF;
            for (int v = Math.max(0, y - 1); v <= Math.min(WIDTH - 1, y + 1); v++) {
                for (int u = x - 1; u <= Math.min(WIDTH - 1, x + 1); u++) {
                    cheapest = Math.min(cheapest, costs[WIDTH * v + u]);
                }
            }
            return cheapest;
        }

        private int flockFrom(int start) {
            costs[start] = 0;
            queue[0] = start;
            int size = 1;
            for (int i = 0; i < size; i++) {
                for (int f = 0; f < 4; f++) {
                    int to = onward(queue[i], f);
                    if (to != NONE && costs[to] == NONE && size < STANDS) {
                        costs[to] = 0;
                        queue[size] = to;
                        size++;
                    }
                }
            }
            return size;
        }
    }

    /** What is asked in thought of planes without end, papers, yards and the game. */
    private static final class Plane {
        static final int MOST_FOLDS = 15;
        static final int MOST_AWAY = 20;
        static final int MOST_ANT = 2000;
        static final int MOST_YARD = 40;
        static final int MOST_GAME = 30;
        private static final int MOST_PACES = 12;
        /** Behind k of 12 steps of 5 one is 5 k away at most, and 20 + 5 (12 - k) if one can yet arrive: 40 at most. */
        private static final int REACH = 40;
        private static final int SPAN = 2 * REACH + 1;
        private static final int FIELDS = SPAN * SPAN;
        /** The game's sums of x and y only fall, so from 30, 30 on neither is ever above 60. */
        private static final int BOARD = 61;
        private static final int[] GAME_X = {-2, -2, 1, -1};
        private static final int[] GAME_Y = {1, -1, -2, -2};

        private final int[] fields = new int[FIELDS];
        private final int[] queue = new int[FIELDS];
        private final int[] ways = new int[MOST_YARD + 1];
        private final int[] values = new int[BOARD * BOARD];
        private boolean valued;

        int foldTurn(int i) {
            int odd = i;
            while (odd > 1 && odd % 2 == 0) {
                odd /= 2;
            }
            return odd % 4 == 1 ? 1 : 0;
        }

        /** One fold more lays the same paper on, gone backwards and turned by a right angle about its end. */
        int foldEnd(int n, boolean asksX) {
            int x = 0;
            int y = 1;
            for (int i = 0; i < n; i++) {
                int nextX = x + y;
                y = y - x;
                x = nextX;
            }
            return asksX ? x : y;
        }

        int paces(int a, int b, int dx, int dy) {
            Arrays.fill(fields, NONE);
            int start = field(0, 0);
            int goal = field(dx, dy);
            fields[start] = 0;
            queue[0] = start;
            int size = 1;
            for (int i = 0; i < size && fields[goal] == NONE; i++) {
                int at = queue[i];
                for (int k = 0; k < 8 && fields[at] < MOST_PACES; k++) {
                    int next = leap(at, k < 4 ? a : b, k < 4 ? b : a, k);
                    if (next != NONE && fields[next] == NONE && size < FIELDS) {
                        fields[next] = fields[at] + 1;
                        queue[size] = next;
                        size++;
                    }
                }
            }
            return fields[goal];
        }

        /** What 0 how many stones, 1 x, 2 y, 3 the most there were. */
        int antLeaves(int n, int what) {
            Arrays.fill(fields, BARE);
            int x = 0;
            int y = 0;
            int facing = 0;
            int stones = 0;
            int most = 0;
            for (int i = 0; i < n; i++) {
                int at = field(x, y);
                if (at == NONE) {
                    break;
                }
                boolean bare = fields[at] == BARE;
                fields[at] = bare ? STONE : BARE;
                stones += bare ? 1 : -1;
                most = Math.max(most, stones);
                facing = facing + (bare ? 1 : 3) & 3;
                x += DX[facing];
                y += DY[facing];
            }
            switch (what) {
                case 0: return stones;
                case 1: return x;
                case 2: return y;
                default: return most;
            }
        }

        /**
         * The last piece that goes through is a slab across, two slabs along, or two hooks with k slabs between in
         * two ways: f(n) = f(n - 1) + f(n - 2) + 2 (f(n - 3) + .. + f(0)), less the same for n - 1.
         */
        int hooksAndSlabs(int n) {
            ways[0] = 1;
            ways[1] = 1;
            ways[2] = 2;
            for (int i = 3; i <= n; i++) {
                ways[i] = (int) ((2L * ways[i - 1] + ways[i - 3]) % MODULUS);
            }
            return ways[n];
        }

        /** Hooks alone close the yard at every third row first, each time in two ways. */
        int hooksAlone(int n) {
            return n % 3 == 0 ? 1 << n / 3 : 0;
        }

        int value(int x, int y) {
            valueAll();
            return values[BOARD * y + x];
        }

        int wellGone(int x, int y) {
            valueAll();
            int where = NONE;
            for (int k = 0; k < 4; k++) {
                int to = gone(x, y, k);
                if (to != NONE && values[to] == 0 && (where == NONE || to < where)) {
                    where = to;
                }
            }
            return where;
        }

        private static int field(int x, int y) {
            if (Math.abs(x) > REACH || Math.abs(y) > REACH) {
                return NONE;
            }
            return SPAN * (y + REACH) + x + REACH;
        }

        private static int leap(int from, int a, int b, int signs) {
            int x = from % SPAN - REACH + ((signs & 1) == 0 ? a : -a);
            int y = from / SPAN - REACH + ((signs & 2) == 0 ? b : -b);
            return field(x, y);
        }

        private static int gone(int x, int y, int k) {
            int toX = x + GAME_X[k & 3];
            int toY = y + GAME_Y[k & 3];
            return toX < 0 || toY < 0 ? NONE : BOARD * toY + toX;
        }

        private static int leastMissing(int set) {
            int v = 0;
            while (v < 4 && (set >> v & 1) == 1) {
                v++;
            }
            return v;
        }

        /** By rising sums, as each move goes to a lesser one; once for all calls. */
        private void valueAll() {
            for (int sum = 0; sum < BOARD && !valued; sum++) {
                for (int x = 0; x <= sum; x++) {
                    int y = sum - x;
                    int reached = 0;
                    for (int k = 0; k < 4; k++) {
                        int to = gone(x, y, k);
                        reached |= to == NONE ? 0 : 1 << values[to];
                    }
                    values[BOARD * y + x] = leastMissing(reached);
                }
            }
            valued = true;
        }
    }
}
