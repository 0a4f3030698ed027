/**
 * Lace by telephone. Every array is made once, with the object, and used again by all calls:
 * no call makes an object.
 */
public final class LaceLines {
    public static final int NONE = -1, UNKNOWN = -1000000001, OUTSIDE = -1000000002, NOT = -1000000003, FULL = -1000000004;

    private static final int MOST_LETTERS = 200, LAST_LETTER = 255;
    private static final int MOST_LINES = 3, MOST_COST = 99, MOST_MAKERS = 6, MOST_CROSSINGS = 8, LONGEST_CALL = 20;
    private static final int DEAF = 1, MIRRORED = 2, NO_CROSSING = 9;
    private static final int MOST_OPEN = 6, MOST_ORDERS = 720, BEYOND_ALL_PLANS = 1000000;
    private static final int MOST_MINUTES = 60, LAST_MINUTE = 90000, MOST_UNDONE = 30;
    private static final int LATEST_PLAN = 200, LATEST_GOSSIP = 99, MOST_TRIES = 30, HUNDRED = 100;
    private static final int MOST_LIES = 6, MOST_BOOK = 20, IMAGES = 2;
    private static final int BILLION = 1000000000, THOUSAND = 1000;
    private static final int MOST_WRONG = 2, MOST_FITTING = 37;
    private static final int CANNOT_STAND = 1, BAD_NUMBER = 2, ONE_TOO_MANY = 3, SAME_MAKER = 4;
    private static final int ROW = 4 + MOST_CROSSINGS + 2 * MOST_MAKERS;

    private final Reader reader;
    private final Pattern draft;
    private final Pattern pattern;
    private final Lace lace;
    private final Undoing undoing;
    private final Images images;
    private final Plan plan;
    private final Window window;
    private final Notes lying;
    private final Notes book;
    private final Suspects suspects;
    private int seed;

    public LaceLines() {
        reader = new Reader();
        draft = new Pattern();
        pattern = new Pattern();
        lace = new Lace(pattern);
        undoing = new Undoing();
        images = new Images();
        plan = new Plan(pattern, lace.board);
        window = new Window(pattern);
        lying = new Notes(MOST_LIES);
        book = new Notes(MOST_BOOK);
        suspects = new Suspects(pattern, window, lying);
        seed = 0;
    }

    // ---- the town

    public int feed(int letter) {
        if (letter < 0 || letter > LAST_LETTER) {
            return OUTSIDE;
        }
        if (reader.length >= MOST_LETTERS) {
            return FULL;
        }
        reader.append(letter);
        return reader.length;
    }

    public int town() {
        reader.read(draft);
        if (reader.flaw != 0) {
            return -10 - reader.flaw;
        }
        pattern.copyFrom(draft);
        lace.begin();
        undoing.forget();
        images.forget();
        lying.clear();
        book.clear();
        return pattern.makers;
    }

    public int fault() {
        return reader.flawAt;
    }

    public int told(int what) {
        switch (what) {
            case 0: return pattern.lines;
            case 1: return pattern.cost;
            case 2: return pattern.makers;
            case 3: return pattern.crossings;
            case 4: return reader.length;
            case 5: return lace.board.minute;
            case 6: return lace.board.openOnes();
            case 7: return lace.board.rung;
            case 8: return lace.board.done;
            case 9: return lace.paidTogether();
            case 10: return lying.count;
            case 11: return book.count;
            case 12: return undoing.kept;
            default: return OUTSIDE;
        }
    }

    public int maker(int m, int what) {
        if (!pattern.hasMaker(m)) {
            return UNKNOWN;
        }
        switch (what) {
            case 0: return pattern.ear[m];
            case 1: return lace.pin[m];
            case 2: return lace.paid[m];
            case 3: return lace.board.callOf(m);
            default: return OUTSIDE;
        }
    }

    public int crossing(int x, int what) {
        if (!pattern.hasCrossing(x)) {
            return UNKNOWN;
        }
        switch (what) {
            case 0: return pattern.first[x];
            case 1: return pattern.second[x];
            case 2: return pattern.minutes[x];
            case 3: return pattern.behind[x];
            case 4: return lace.board.stateOf(x);
            case 5: return lace.board.endOf(x);
            default: return OUTSIDE;
        }
    }

    // ---- calls

    public int ring(int x) {
        if (!pattern.hasCrossing(x)) {
            return UNKNOWN;
        }
        if (!lace.board.canBegin(x, pattern.lines)) {
            return NOT;
        }
        beginCall(x);
        return lace.board.endOf(x);
    }

    public int hangUp(int x) {
        if (!pattern.hasCrossing(x)) {
            return UNKNOWN;
        }
        if (!has(lace.board.rung, x)) {
            return NOT;
        }
        undoing.remember(lace);
        return lace.breakOff(x);
    }

    public int minute(int n) {
        int refusal = refusalOfMinutes(n);
        if (refusal != 0) {
            return refusal;
        }
        for (int i = 0; i < n; i++) {
            passMinute();
        }
        return lace.board.done;
    }

    public int wrongNumber(int a, int b) {
        if (!pattern.hasMaker(a) || !pattern.hasMaker(b) || a == b) {
            return UNKNOWN;
        }
        if (has(lace.board.busy, a) || has(lace.board.busy, b)) {
            return NOT;
        }
        undoing.remember(lace);
        swap(lace.pin, a, b);
        return lace.pin[a];
    }

    public int drift(int n) {
        int refusal = refusalOfMinutes(n);
        if (refusal != 0) {
            return refusal;
        }
        for (int i = 0; i < n; i++) {
            int x = draw(pattern.crossings + 1);
            if (x < pattern.crossings && lace.board.canBegin(x, pattern.lines)) {
                beginCall(x);
            }
            passMinute();
        }
        return lace.board.done;
    }

    public int undo(int n) {
        if (n < 1 || n > MOST_UNDONE) {
            return OUTSIDE;
        }
        if (n > undoing.kept) {
            return NOT;
        }
        undoing.takeBack(lace, n);
        return lace.board.minute;
    }

    // ---- tried

    public int soonest(int i) {
        if (!canPlan()) {
            return NOT;
        }
        int fewest = plan.seek(pattern.lines);
        if (i == NONE) {
            return fewest;
        }
        return i >= 0 && i < plan.open ? plan.best[i] : NONE;
    }

    public int lines(int n) {
        if (n < 0 || n > LATEST_PLAN) {
            return OUTSIDE;
        }
        if (!canPlan()) {
            return NOT;
        }
        for (int tried = 1; tried <= MOST_LINES; tried++) {
            if (plan.seek(tried) <= n) {
                return tried;
            }
        }
        return NONE;
    }

    public int chain(int what) {
        if (what != 0 && what != 1) {
            return OUTSIDE;
        }
        // Without a crossing there is no row, so its minutes are NONE, not 0.
        int longest = NONE;
        int last = NONE;
        for (int x = 0; x < pattern.crossings; x++) {
            int lasts = pattern.minutesOfRowTo(x);
            if (lasts > longest) {
                longest = lasts;
                last = x;
            }
        }
        return what == 0 ? longest : last;
    }

    public int window(int m, int set) {
        if (!pattern.hasMaker(m) || (set & ~pattern.allCrossings()) != 0) {
            return UNKNOWN;
        }
        window.lay(set);
        return window.pin[m];
    }

    public int gone(int m) {
        if (!pattern.hasMaker(m)) {
            return UNKNOWN;
        }
        int lost = 0;
        // One pass is enough, for what a crossing is behind was told ahead of it.
        for (int x = 0; x < pattern.crossings; x++) {
            if (has(pattern.pairOf(x), m) || has(lost, pattern.behind[x])) {
                lost |= 1 << x;
            }
        }
        return lost;
    }

    public int share(int m) {
        if (!pattern.hasMaker(m)) {
            return UNKNOWN;
        }
        int together = lace.paidTogether();
        if (together <= 0) {
            return 0;
        }
        // long: what one has paid goes into the millions
        return (int) ((long) lace.paid[m] * THOUSAND / together);
    }

    public int engaged(int n, int q) {
        if (n < 0 || n > MOST_TRIES || q < 0 || q > HUNDRED) {
            return OUTSIDE;
        }
        long engagedStill = BILLION;
        for (int i = 0; i < n; i++) {
            engagedStill = engagedStill * q / HUNDRED;
        }
        return (int) (BILLION - engagedStill);
    }

    public int gossip(int m, int n) {
        if (!pattern.hasMaker(m)) {
            return UNKNOWN;
        }
        if (n < 0 || n > LATEST_GOSSIP) {
            return OUTSIDE;
        }
        if (!canPlan()) {
            return NOT;
        }
        plan.seek(pattern.lines);
        return plan.spread(1 << m, n);
    }

    // ---- what lies there

    public int lies(int m, int thread) {
        return noteDown(lying, m, thread);
    }

    public int wentWrong(int i) {
        suspects.gather();
        if (i == NONE) {
            return suspects.count;
        }
        return i >= 0 && i < suspects.count ? suspects.set[i] : NONE;
    }

    public int sure() {
        suspects.gather();
        return suspects.inAll();
    }

    public int look() {
        suspects.gather();
        int best = NONE;
        int least = suspects.count;
        for (int m = 0; m < pattern.makers; m++) {
            int part = suspects.greatestPart(m);
            if (part < least) {
                least = part;
                best = m;
            }
        }
        return best;
    }

    public int strange(int i) {
        window.lay(0);
        int count = 0;
        for (int a = 0; a < pattern.makers; a++) {
            for (int b = a + 1; b < pattern.makers; b++) {
                if (mends(a, b)) {
                    if (count == i) {
                        return 10 * a + b;
                    }
                    count++;
                }
            }
        }
        return i == NONE ? count : NONE;
    }

    public int ears(int m) {
        if (!pattern.hasMaker(m)) {
            return UNKNOWN;
        }
        int fitting = 0;
        for (int ear = 0; ear <= MIRRORED; ear++) {
            window.layWithEar(m, ear);
            if (lying.firstOtherwise(window.pin) == NONE) {
                fitting |= 1 << ear;
            }
        }
        return fitting;
    }

    public int write(int m, int thread) {
        return noteDown(book, m, thread);
    }

    public int judge() {
        return book.firstOtherwise(lace.pin);
    }

    public int tear() {
        int both = lying.count + book.count;
        lying.clear();
        book.clear();
        return both;
    }

    // ---- images

    public int seed(int v) {
        if (v < 0) {
            return OUTSIDE;
        }
        int before = seed;
        seed = v;
        return before;
    }

    public int keep(int i) {
        if (i < 0 || i >= IMAGES) {
            return UNKNOWN;
        }
        images.put(i, lace, seed);
        undoing.forget();
        return 1;
    }

    public int goBack(int i) {
        if (i < 0 || i >= IMAGES) {
            return UNKNOWN;
        }
        if (!has(images.kept, i)) {
            return NOT;
        }
        images.show(i, lace);
        seed = images.seed[i];
        undoing.forget();
        return 1;
    }

    // ---- what several calls use

    private static boolean has(int set, int k) {
        // NONE is in no set; a shift by it would be one by 31
        return k >= 0 && (set >> k & 1) == 1;
    }

    private static void swap(int[] row, int i, int j) {
        int held = row[i];
        row[i] = row[j];
        row[j] = held;
    }

    private void beginCall(int x) {
        undoing.remember(lace);
        lace.board.begin(x);
    }

    private void passMinute() {
        undoing.remember(lace);
        lace.pass();
    }

    private int refusalOfMinutes(int n) {
        if (n < 1 || n > MOST_MINUTES) {
            return OUTSIDE;
        }
        if (!pattern.hasExchange()) {
            return NOT;
        }
        return lace.board.minute > LAST_MINUTE ? FULL : 0;
    }

    private int draw(int n) {
        // the int's own wrap-around leaves the lowest 31 bits right
        seed = (seed * 1103515245 + 12345) & 0x7fffffff;
        return n > 0 ? seed / 65536 % n : 0;
    }

    private boolean canPlan() {
        return pattern.hasExchange() && Integer.bitCount(lace.board.openOnes()) <= MOST_OPEN;
    }

    private int noteDown(Notes notes, int m, int thread) {
        if (!pattern.hasMaker(m) || !pattern.hasMaker(thread)) {
            return UNKNOWN;
        }
        if (notes.count >= notes.most) {
            return FULL;
        }
        notes.add(m, thread);
        return notes.count;
    }

    /** Whether all that lies is so, if these two change what the window has; it has it again then. */
    private boolean mends(int a, int b) {
        swap(window.pin, a, b);
        boolean so = lying.firstOtherwise(window.pin) == NONE;
        swap(window.pin, a, b);
        return so;
    }

    /** What a text tells. Without lines there is no exchange. */
    private static final class Pattern {
        int lines;
        int cost;
        int makers;
        int crossings;
        final int[] ear;
        final int[] first;
        final int[] second;
        final int[] minutes;
        final int[] behind;

        Pattern() {
            ear = new int[MOST_MAKERS];
            first = new int[MOST_CROSSINGS];
            second = new int[MOST_CROSSINGS];
            minutes = new int[MOST_CROSSINGS];
            behind = new int[MOST_CROSSINGS];
        }

        void clear() {
            lines = 0;
            cost = 0;
            makers = 0;
            crossings = 0;
        }

        void copyFrom(Pattern other) {
            lines = other.lines;
            cost = other.cost;
            makers = other.makers;
            crossings = other.crossings;
            System.arraycopy(other.ear, 0, ear, 0, MOST_MAKERS);
            System.arraycopy(other.first, 0, first, 0, MOST_CROSSINGS);
            System.arraycopy(other.second, 0, second, 0, MOST_CROSSINGS);
            System.arraycopy(other.minutes, 0, minutes, 0, MOST_CROSSINGS);
            System.arraycopy(other.behind, 0, behind, 0, MOST_CROSSINGS);
        }

        boolean hasExchange() {
            return lines > 0;
        }

        boolean hasMaker(int m) {
            return m >= 0 && m < makers;
        }

        boolean hasCrossing(int x) {
            return x >= 0 && x < crossings;
        }

        int allCrossings() {
            return (1 << crossings) - 1;
        }

        int pairOf(int x) {
            return 1 << first[x] | 1 << second[x];
        }

        int minutesOfRowTo(int x) {
            int lasts = 0;
            int at = x;
            for (int i = 0; i < MOST_CROSSINGS && at != NONE; i++) {
                lasts += minutes[at];
                at = behind[at];
            }
            return lasts;
        }

        /** The ears are handed in, for some are tried that were not told. */
        void cross(int x, int[] ears, int[] pin) {
            int a = first[x];
            int b = second[x];
            if (ears[a] == DEAF || ears[b] == DEAF) {
                return;
            }
            boolean mirrored = ears[a] == MIRRORED || ears[b] == MIRRORED;
            swap(pin, a, mirrored ? nextRound(b) : b);
        }

        private int nextRound(int m) {
            return m + 1 < makers ? m + 1 : 0;
        }
    }

    /** The text, and the reading of it up to its first fault. */
    private static final class Reader {
        final int[] text;
        int length;
        int flaw;
        int flawAt;
        private int at;
        private int numberAt;

        Reader() {
            text = new int[MOST_LETTERS];
            flawAt = NONE;
        }

        void append(int letter) {
            text[length] = letter;
            length++;
        }

        /** The text is empty behind it, with a fault, too; with one the draft is of no use. */
        void read(Pattern draft) {
            draft.clear();
            flaw = 0;
            flawAt = NONE;
            at = 0;
            skipBlanks();
            for (int clause = 0; clause < MOST_LETTERS && flaw == 0 && at < length; clause++) {
                readClause(draft);
                skipBlanks();
            }
            length = 0;
        }

        private void readClause(Pattern draft) {
            int word = text[at];
            int wrong = flawOfWord(draft, word);
            if (wrong != 0) {
                blame(wrong, at);
                return;
            }
            at++;
            if (word == 'e') {
                readExchange(draft);
            } else if (word == 'm') {
                readMaker(draft);
            } else {
                readCrossing(draft);
            }
        }

        private static int flawOfWord(Pattern draft, int word) {
            if (word != 'e' && !(draft.hasExchange() && (word == 'm' || word == 'x'))) {
                return CANNOT_STAND;
            }
            boolean tooMany = word == 'e' && draft.hasExchange()
                || word == 'm' && draft.makers >= MOST_MAKERS
                || word == 'x' && draft.crossings >= MOST_CROSSINGS;
            return tooMany ? ONE_TOO_MANY : 0;
        }

        private void readExchange(Pattern draft) {
            int lines = readNumber(1, MOST_LINES);
            int cost = readNumber(0, MOST_COST);
            readEnd();
            if (flaw == 0) {
                draft.lines = lines;
                draft.cost = cost;
            }
        }

        private void readMaker(Pattern draft) {
            int ear = readNumber(0, MIRRORED);
            readEnd();
            if (flaw == 0) {
                draft.ear[draft.makers] = ear;
                draft.makers++;
            }
        }

        private void readCrossing(Pattern draft) {
            int a = readNumber(0, draft.makers - 1);
            int b = readNumber(0, draft.makers - 1);
            if (a == b) {
                blame(SAME_MAKER, numberAt);
            }
            int minutes = readNumber(1, LONGEST_CALL);
            int behind = readNumber(0, NO_CROSSING);
            if (behind >= draft.crossings && behind != NO_CROSSING) {
                blame(BAD_NUMBER, numberAt);
            }
            readEnd();
            if (flaw == 0) {
                int x = draft.crossings;
                draft.first[x] = a;
                draft.second[x] = b;
                draft.minutes[x] = minutes;
                draft.behind[x] = behind == NO_CROSSING ? NONE : behind;
                draft.crossings++;
            }
        }

        private int readNumber(int least, int most) {
            if (flaw != 0) {
                return 0;
            }
            skipBlanks();
            numberAt = at;
            int value = 0;
            while (at < length && isFigure(text[at])) {
                // what has four figures is a fault anyhow: only the sum must not run over
                value = Math.min(value * 10 + text[at] - '0', 1000);
                at++;
            }
            int figures = at - numberAt;
            if (figures == 0) {
                blame(CANNOT_STAND, at);
            } else if (figures > 3 || value < least || value > most) {
                blame(BAD_NUMBER, numberAt);
            }
            return value;
        }

        private void readEnd() {
            if (flaw != 0) {
                return;
            }
            skipBlanks();
            if (at >= length || text[at] != ';') {
                blame(CANNOT_STAND, at);
                return;
            }
            at++;
        }

        private void skipBlanks() {
            while (at < length && text[at] == ' ') {
                at++;
            }
        }

        private static boolean isFigure(int letter) {
            return letter >= '0' && letter <= '9';
        }

        /** The first one stays: what is read behind a fault tells nothing. */
        private void blame(int what, int where) {
            if (flaw == 0) {
                flaw = what;
                flawAt = where;
            }
        }
    }

    /** Which calls are open, rung, done: what a plan needs to try, without threads and bills. */
    private static final class Board {
        final Pattern pattern;
        int minute;
        int rung;
        int done;
        int busy;
        final int[] end;

        Board(Pattern pattern) {
            this.pattern = pattern;
            end = new int[MOST_CROSSINGS];
        }

        void clear() {
            minute = 0;
            rung = 0;
            done = 0;
            busy = 0;
        }

        void copyFrom(Board other) {
            minute = other.minute;
            rung = other.rung;
            done = other.done;
            busy = other.busy;
            System.arraycopy(other.end, 0, end, 0, MOST_CROSSINGS);
        }

        int openOnes() {
            return pattern.allCrossings() & ~rung & ~done;
        }

        int stateOf(int x) {
            if (has(done, x)) {
                return 2;
            }
            return has(rung, x) ? 1 : 0;
        }

        int endOf(int x) {
            return has(rung | done, x) ? end[x] : NONE;
        }

        int callOf(int m) {
            for (int x = 0; x < pattern.crossings; x++) {
                if (has(rung, x) && has(pattern.pairOf(x), m)) {
                    return x;
                }
            }
            return NONE;
        }

        boolean canBegin(int x, int lines) {
            int behind = pattern.behind[x];
            return !has(rung | done, x)
                && (behind == NONE || has(done, behind))
                && (busy & pattern.pairOf(x)) == 0
                && Integer.bitCount(rung) < lines;
        }

        void begin(int x) {
            rung |= 1 << x;
            busy |= pattern.pairOf(x);
            end[x] = minute + pattern.minutes[x];
        }

        void leave(int x) {
            rung &= ~(1 << x);
            busy &= ~pattern.pairOf(x);
        }

        /** What is over by now is done: those that are so only now. */
        int finish() {
            int over = 0;
            for (int x = 0; x < pattern.crossings; x++) {
                if (has(rung, x) && end[x] <= minute) {
                    leave(x);
                    over |= 1 << x;
                }
            }
            done |= over;
            return over;
        }

        /** Nothing can change ahead of that minute, if all that can be rung is. */
        int nextEnd() {
            int next = NONE;
            for (int x = 0; x < pattern.crossings; x++) {
                if (has(rung, x) && (next == NONE || end[x] < next)) {
                    next = end[x];
                }
            }
            return next;
        }
    }

    /** All that is so now: calls, threads, bills. */
    private static final class Lace {
        final Pattern pattern;
        final Board board;
        final int[] pin;
        final int[] paid;

        Lace(Pattern pattern) {
            this.pattern = pattern;
            board = new Board(pattern);
            pin = new int[MOST_MAKERS];
            paid = new int[MOST_MAKERS];
        }

        void begin() {
            board.clear();
            for (int m = 0; m < MOST_MAKERS; m++) {
                pin[m] = m;
                paid[m] = 0;
            }
        }

        void pass() {
            board.minute++;
            int over = board.finish();
            for (int x = 0; x < pattern.crossings; x++) {
                if (has(over, x)) {
                    pattern.cross(x, pattern.ear, pin);
                    bill(x, pattern.minutes[x]);
                }
            }
        }

        int breakOff(int x) {
            int wentBy = board.minute - (board.end[x] - pattern.minutes[x]);
            board.leave(x);
            bill(x, wentBy);
            return wentBy;
        }

        int paidTogether() {
            int sum = 0;
            for (int m = 0; m < pattern.makers; m++) {
                sum += paid[m];
            }
            return sum;
        }

        private void bill(int x, int minutes) {
            paid[pattern.first[x]] += minutes * pattern.cost;
            paid[pattern.second[x]] += minutes * pattern.cost;
        }

        void store(int[] rows, int row) {
            int at = row * ROW;
            rows[at] = board.minute;
            rows[at + 1] = board.rung;
            rows[at + 2] = board.done;
            rows[at + 3] = board.busy;
            System.arraycopy(board.end, 0, rows, at + 4, MOST_CROSSINGS);
            System.arraycopy(pin, 0, rows, at + 4 + MOST_CROSSINGS, MOST_MAKERS);
            System.arraycopy(paid, 0, rows, at + 4 + MOST_CROSSINGS + MOST_MAKERS, MOST_MAKERS);
        }

        void load(int[] rows, int row) {
            int at = row * ROW;
            board.minute = rows[at];
            board.rung = rows[at + 1];
            board.done = rows[at + 2];
            board.busy = rows[at + 3];
            System.arraycopy(rows, at + 4, board.end, 0, MOST_CROSSINGS);
            System.arraycopy(rows, at + 4 + MOST_CROSSINGS, pin, 0, MOST_MAKERS);
            System.arraycopy(rows, at + 4 + MOST_CROSSINGS + MOST_MAKERS, paid, 0, MOST_MAKERS);
        }
    }

    /** What was so ahead of each of the latest steps, round: the oldest gives way. */
    private static final class Undoing {
        final int[] rows;
        int next;
        int kept;

        Undoing() {
            rows = new int[MOST_UNDONE * ROW];
        }

        void forget() {
            next = 0;
            kept = 0;
        }

        void remember(Lace lace) {
            lace.store(rows, next);
            next = next + 1 < MOST_UNDONE ? next + 1 : 0;
            kept = Math.min(kept + 1, MOST_UNDONE);
        }

        void takeBack(Lace lace, int n) {
            next = next >= n ? next - n : next - n + MOST_UNDONE;
            kept -= n;
            lace.load(rows, next);
        }
    }

    private static final class Images {
        final int[] rows;
        final int[] seed;
        int kept;

        Images() {
            rows = new int[IMAGES * ROW];
            seed = new int[IMAGES];
        }

        void forget() {
            kept = 0;
        }

        void put(int i, Lace lace, int seedNow) {
            lace.store(rows, i);
            seed[i] = seedNow;
            kept |= 1 << i;
        }

        void show(int i, Lace lace) {
            lace.load(rows, i);
        }
    }

    /** Orders of the open calls, tried on a board of its own. */
    private static final class Plan {
        final Pattern pattern;
        final Board now;
        final Board trial;
        final int[] order;
        final int[] best;
        int open;

        Plan(Pattern pattern, Board now) {
            this.pattern = pattern;
            this.now = now;
            trial = new Board(pattern);
            order = new int[MOST_OPEN];
            best = new int[MOST_OPEN];
        }

        /** The fewest minutes; the first order that has them is the best. No more than six may be open. */
        int seek(int lines) {
            listOpen();
            int fewest = BEYOND_ALL_PLANS;
            for (int i = 0; i < MOST_ORDERS; i++) {
                int minutes = minutesOf(lines, fewest);
                if (minutes < fewest) {
                    fewest = minutes;
                    System.arraycopy(order, 0, best, 0, open);
                }
                if (!nextOrder()) {
                    return fewest;
                }
            }
            return fewest;
        }

        private void listOpen() {
            int set = now.openOnes();
            open = 0;
            for (int x = 0; x < pattern.crossings && open < MOST_OPEN; x++) {
                if (has(set, x)) {
                    order[open] = x;
                    open++;
                }
            }
        }

        /** How long the order lasts; the limit, as soon as it is no better than that. */
        private int minutesOf(int lines, int limit) {
            trial.copyFrom(now);
            // each step ends one call at least
            for (int step = 0; step <= MOST_CROSSINGS; step++) {
                beginAll(order, lines);
                int next = trial.nextEnd();
                if (next == NONE) {
                    break;
                }
                trial.minute = next;
                if (next - now.minute >= limit) {
                    return limit;
                }
                trial.finish();
            }
            return trial.minute - now.minute;
        }

        private void beginAll(int[] row, int lines) {
            for (int i = 0; i < open; i++) {
                if (trial.canBegin(row[i], lines)) {
                    trial.begin(row[i]);
                }
            }
        }

        /** The next one in rising order of all orders. */
        private boolean nextOrder() {
            int turn = open - 2;
            while (turn >= 0 && order[turn] > order[turn + 1]) {
                turn--;
            }
            if (turn < 0) {
                return false;
            }
            int with = open - 1;
            while (with > turn && order[with] < order[turn]) {
                with--;
            }
            swap(order, turn, with);
            int low = turn + 1;
            int high = open - 1;
            while (low < high) {
                swap(order, low, high);
                low++;
                high--;
            }
            return true;
        }

        /** Who knows it behind so many minutes of the best order; seek goes ahead of it. */
        int spread(int knowing, int minutes) {
            int known = knowing;
            trial.copyFrom(now);
            for (int step = 0; step <= MOST_CROSSINGS; step++) {
                beginAll(best, pattern.lines);
                int next = trial.nextEnd();
                if (next == NONE || next - now.minute > minutes) {
                    return known;
                }
                trial.minute = next;
                known = toldOn(known, trial.finish());
            }
            return known;
        }

        private int toldOn(int knowing, int over) {
            int known = knowing;
            for (int x = 0; x < pattern.crossings; x++) {
                if (has(over, x) && (known & pattern.pairOf(x)) != 0) {
                    known |= pattern.pairOf(x);
                }
            }
            return known;
        }
    }

    /** What would lie in the mayor's window, all being done from the beginning. */
    private static final class Window {
        final Pattern pattern;
        final int[] pin;
        final int[] ear;

        Window(Pattern pattern) {
            this.pattern = pattern;
            pin = new int[MOST_MAKERS];
            ear = new int[MOST_MAKERS];
        }

        void lay(int wrong) {
            layBy(wrong, pattern.ear);
        }

        void layWithEar(int m, int tried) {
            System.arraycopy(pattern.ear, 0, ear, 0, MOST_MAKERS);
            ear[m] = tried;
            layBy(0, ear);
        }

        private void layBy(int wrong, int[] ears) {
            for (int m = 0; m < MOST_MAKERS; m++) {
                pin[m] = m;
            }
            for (int x = 0; x < pattern.crossings; x++) {
                if (!has(wrong, x)) {
                    pattern.cross(x, ears, pin);
                }
            }
        }
    }

    /** Threads told of pins: what lies there, or the book. There is room for the longer of both. */
    private static final class Notes {
        final int most;
        final int[] maker;
        final int[] thread;
        int count;

        Notes(int most) {
            this.most = most;
            maker = new int[MOST_BOOK];
            thread = new int[MOST_BOOK];
        }

        void clear() {
            count = 0;
        }

        void add(int m, int t) {
            maker[count] = m;
            thread[count] = t;
            count++;
        }

        int firstOtherwise(int[] pin) {
            for (int i = 0; i < count; i++) {
                if (pin[maker[i]] != thread[i]) {
                    return i;
                }
            }
            return NONE;
        }
    }

    /** The sets of crossings that may have gone wrong, and the pins by each of them. */
    private static final class Suspects {
        final Pattern pattern;
        final Window window;
        final Notes lying;
        final int[] set;
        final int[] pins;
        final int[] part;
        int count;

        Suspects(Pattern pattern, Window window, Notes lying) {
            this.pattern = pattern;
            this.window = window;
            this.lying = lying;
            set = new int[MOST_FITTING];
            pins = new int[MOST_FITTING * MOST_MAKERS];
            part = new int[MOST_MAKERS];
        }

        void gather() {
            count = 0;
            for (int size = 0; size <= MOST_WRONG; size++) {
                for (int wrong = 0; wrong <= pattern.allCrossings(); wrong++) {
                    if (Integer.bitCount(wrong) == size) {
                        addIfFitting(wrong);
                    }
                }
            }
        }

        private void addIfFitting(int wrong) {
            window.lay(wrong);
            if (count < MOST_FITTING && lying.firstOtherwise(window.pin) == NONE) {
                set[count] = wrong;
                System.arraycopy(window.pin, 0, pins, count * MOST_MAKERS, MOST_MAKERS);
                count++;
            }
        }

        int inAll() {
            int common = count > 0 ? set[0] : 0;
            for (int i = 1; i < count; i++) {
                common &= set[i];
            }
            return common;
        }

        int greatestPart(int m) {
            for (int thread = 0; thread < MOST_MAKERS; thread++) {
                part[thread] = 0;
            }
            int greatest = 0;
            for (int i = 0; i < count; i++) {
                int thread = pins[i * MOST_MAKERS + m];
                part[thread]++;
                greatest = Math.max(greatest, part[thread]);
            }
            return greatest;
        }
    }
}
