import java.util.Arrays;

/** Covering systems of residues; the document ../shared/DOC.md says what each call answers. */
public final class ResidueCover {
    public static final int NONE = -1;

    private static final int FINE = 0;
    private static final int BAD_NUMBER = 1;
    private static final int NO_TRAY = 2;
    private static final int NO_PLACE = 3;
    private static final int FULL = 4;
    private static final int BAD_IN_TRAY = 5;
    private static final int NONE_SUCH = 6;
    private static final int CANNOT_BE = 7;
    private static final int UNLIKE_SORTS = 8;
    private static final int FAULTY = 9;

    private static final int TRAYS = 4;
    private static final int TRAY_PLACES = 60;
    private static final int MARKS = 3;
    private static final int MOST_CLASSES = 12;
    private static final int MOST_MODULUS = 60;
    private static final int MOST_REST = 59;
    private static final int MOST_ODDS = 16;
    private static final int USUAL_ODDS = 4;
    private static final int MOST_SPAN = 5040;
    private static final int MOST_NUMBER = 9999;
    private static final int LEAST_PARTS = 2;
    private static final int MOST_PARTS = 7;
    private static final int MOST_MODULI = 6;
    private static final int MOST_TURNS = 2;
    private static final int MOST_CHANCES = 5;
    private static final int MOST_SEEDS = 20;
    private static final int SYSTEM_BYTES = 900;
    private static final int DAYS_BYTES = 300;
    private static final int FED_BYTES = 20;

    /** What a span is told as that is above the greatest one. */
    private static final int TOO_WIDE = 0;
    private static final int WORD_BITS = 64;
    private static final int SPAN_WORDS = (MOST_SPAN + WORD_BITS - 1) / WORD_BITS;
    /** No two longs need more divisions to find what divides both. */
    private static final int MOST_DIVISIONS = 100;

    /** Sorts of tokens; those of the kept words follow the first one as KEPT_WORDS tells them. */
    private static final int TEXT_END = 0;
    private static final int NO_TOKEN = 1;
    private static final int NUMBER = 2;
    private static final int NAME = 3;
    private static final int LONG_WORD = 4;
    private static final int SEMICOLON = 5;
    private static final int LESS = 6;
    private static final int MORE = 7;
    private static final int EQUAL = 8;
    private static final int ODDS = 10;
    private static final int CLASS = 11;
    private static final int REST = 12;
    private static final int BY = 13;
    private static final int OFF = 14;
    private static final int ON = 15;
    private static final int SHIFT = 16;
    private static final int SPLIT = 17;
    private static final int ANY = 18;
    private static final int WHEN = 19;
    private static final int COVERED = 20;
    private static final int CAUGHT = 21;
    private static final int GAPS = 22;
    private static final int LOOP = 23;
    private static final int END = 24;
    private static final int STOP = 25;
    private static final int NAME_LETTERS = 8;
    /** Each kept word fills NAME_LETTERS signs, so that its place tells its sort. */
    private static final String KEPT_WORDS =
            "odds    class   rest    by      off     on      shift   split   any     when    covered caught  gaps    loop    end     stop    ";

    private static final int FAULT_TOKEN = 1;
    private static final int FAULT_PLACE = 2;
    private static final int FAULT_NAME = 3;
    private static final int FAULT_NUMBER = 4;
    private static final int FAULT_ODDS = 5;
    private static final int FAULT_MANY = 6;
    private static final int FAULT_DEEP = 7;

    private int status = FINE;
    private long top = 0;
    private long bottom = 1;
    private final Tray[] trays = new Tray[TRAYS];
    private final Reader reader = new Reader();
    private final Classes now = new Classes();
    private final Classes trial = new Classes();
    private final Days days = new Days();
    private final Days draft = new Days();
    private final Classes[] keptClasses = new Classes[MARKS];
    private final Days[] keptDays = new Days[MARKS];
    private int marks = 0;
    private final Sieve sieve = new Sieve();
    private final Tree tree = new Tree();
    private final Choices choices = new Choices();
    private final Life life = new Life();
    private final Life trialLife = new Life();

    public ResidueCover() {
        for (int i = 0; i < TRAYS; i++) {
            trays[i] = new Tray();
        }
        for (int i = 0; i < MARKS; i++) {
            keptClasses[i] = new Classes();
            keptDays[i] = new Days();
        }
    }

    public int status() {
        return status;
    }

    public long top() {
        return top;
    }

    public long bottom() {
        return bottom;
    }

    // ---- TRAYS

    public boolean tray(int tray, int sort, int many) {
        if (!within(tray, 0, TRAYS - 1) || !within(sort, 0, Tray.SORTS - 1) || !within(many, 0, TRAY_PLACES)) {
            return deny(BAD_NUMBER);
        }
        trays[tray].lay(sort, many);
        return agree();
    }

    public boolean write(int tray, int place, long v) {
        int trouble = placeTrouble(tray, place);
        if (trouble != FINE) {
            return deny(trouble);
        }
        trays[tray].put(place, v);
        return agree();
    }

    public long read(int tray, int place) {
        int trouble = placeTrouble(tray, place);
        if (trouble != FINE) {
            return refuse(trouble);
        }
        status = FINE;
        return trays[tray].at(place);
    }

    public boolean pour(int from, int place, int to, int at, int many) {
        int trouble = pourTrouble(from, place, to, at, many);
        if (trouble != FINE) {
            return deny(trouble);
        }
        System.arraycopy(trays[from].row, place, trays[to].row, at, many);
        return agree();
    }

    private int pourTrouble(int from, int place, int to, int at, int many) {
        if (!within(from, 0, TRAYS - 1) || !within(to, 0, TRAYS - 1) || place < 0 || at < 0 || many < 0) {
            return BAD_NUMBER;
        }
        if (trays[from].isMissing() || trays[to].isMissing()) {
            return NO_TRAY;
        }
        if (trays[from].sort != trays[to].sort) {
            return UNLIKE_SORTS;
        }
        return trays[from].holds(place, many) && trays[to].holds(at, many) ? FINE : NO_PLACE;
    }

    private int trayTrouble(int tray) {
        if (!within(tray, 0, TRAYS - 1)) {
            return BAD_NUMBER;
        }
        return trays[tray].isMissing() ? NO_TRAY : FINE;
    }

    private int placeTrouble(int tray, int place) {
        int trouble = trayTrouble(tray);
        if (trouble != FINE) {
            return trouble;
        }
        return trays[tray].holds(place, 1) ? FINE : NO_PLACE;
    }

    // ---- texts

    public int feed(int a, int b, int c, int d, int e) {
        if (reader.fed + FED_BYTES > SYSTEM_BYTES) {
            return NONE;
        }
        reader.append(a);
        reader.append(b);
        reader.append(c);
        reader.append(d);
        reader.append(e);
        return reader.fed;
    }

    public int system(int n) {
        if (!within(n, 0, reader.fed)) {
            return refuse(BAD_NUMBER);
        }
        reader.begin(n);
        if (!SystemText.take(reader, trial)) {
            return refuse(FAULTY);
        }
        now.copyFrom(trial);
        days.clear();
        return answer(now.count);
    }

    public int days(int n) {
        if (!within(n, 0, Math.min(reader.fed, DAYS_BYTES))) {
            return refuse(BAD_NUMBER);
        }
        reader.begin(n);
        if (!DaysText.take(reader, now, draft)) {
            return refuse(FAULTY);
        }
        days.copyFrom(draft);
        return answer(days.steps);
    }

    public int fault(int what) {
        if (what == 0) {
            return reader.fault;
        }
        return what == 1 ? reader.faultPlace : NONE;
    }

    public int told(int what) {
        switch (what) {
            case 0:
                return answer(now.count);
            case 1:
                return answer(now.odds);
            case 2:
                return answer(now.on);
            case 3:
            case 4:
            case 5:
                return toldBySpan(what);
            case 6:
                return answer(now.couples());
            case 7:
                return answer(now.allUnlike() ? 1 : 0);
            default:
                return refuse(BAD_NUMBER);
        }
    }

    private int toldBySpan(int what) {
        if (!sieved()) {
            return refuse(CANNOT_BE);
        }
        if (what == 3) {
            return answer(sieve.span);
        }
        int open = sieve.countGaps();
        if (what == 4) {
            return answer(open);
        }
        return answer(open == 0 ? 1 : 0);
    }

    public int classOf(int k, int what) {
        if (!now.isThere(k)) {
            return refuse(BAD_NUMBER);
        }
        switch (what) {
            case 0:
                return answer(now.rest[k]);
            case 1:
                return answer(now.modulus[k]);
            case 2:
                return answer(now.isOn(k) ? 1 : 0);
            default:
                return refuse(BAD_NUMBER);
        }
    }

    public int caught(int n) {
        return within(n, 0, MOST_NUMBER) ? answer(now.catchers(n)) : refuse(BAD_NUMBER);
    }

    public int tightest(int n) {
        if (!within(n, 0, MOST_NUMBER)) {
            return refuse(BAD_NUMBER);
        }
        return answerOrNone(now.leastModulusOf(now.catchers(n)));
    }

    // ---- what is done

    public int turn(int k) {
        if (!now.isThere(k)) {
            return refuse(BAD_NUMBER);
        }
        now.flip(k);
        return answer(now.isOn(k) ? 1 : 0);
    }

    public int add(int rest, int modulus) {
        if (!within(rest, 0, MOST_REST) || !within(modulus, 1, MOST_MODULUS)) {
            return refuse(BAD_NUMBER);
        }
        if (now.count >= MOST_CLASSES) {
            return refuse(FULL);
        }
        now.append(rest, modulus, true, 0);
        return answer(now.count - 1);
    }

    public int drop(int k) {
        if (!now.isThere(k)) {
            return refuse(BAD_NUMBER);
        }
        now.remove(k);
        return answer(now.count);
    }

    public int move(int k, int rest) {
        if (!now.isThere(k) || !within(rest, 0, MOST_REST)) {
            return refuse(BAD_NUMBER);
        }
        int old = now.rest[k];
        now.rest[k] = leftBy(rest, now.modulus[k]);
        return answer(old);
    }

    public boolean shift(int n) {
        if (!within(n, 0, MOST_REST)) {
            return deny(BAD_NUMBER);
        }
        now.slide(n);
        return agree();
    }

    public int spread(int n) {
        if (!within(n, 2, MOST_MODULUS)) {
            return refuse(BAD_NUMBER);
        }
        if (now.greatestModulus() * n > MOST_MODULUS) {
            return refuse(CANNOT_BE);
        }
        if (now.count == 0) {
            return refuse(NONE_SUCH);
        }
        now.stretch(n);
        return answer(now.greatestModulus());
    }

    public int split(int k, int n) {
        if (!now.isThere(k) || !within(n, LEAST_PARTS, MOST_PARTS)) {
            return refuse(BAD_NUMBER);
        }
        int trouble = now.partTrouble(k, n);
        if (trouble != FINE) {
            return refuse(trouble);
        }
        now.part(k, n);
        return answer(now.count);
    }

    public int join(int k, int n) {
        if (!now.isThere(k) || !within(n, LEAST_PARTS, MOST_PARTS)) {
            return refuse(BAD_NUMBER);
        }
        if (leftBy(now.modulus[k], n) != 0) {
            return refuse(CANNOT_BE);
        }
        int parts = now.partsWith(k, n);
        if (parts == 0) {
            return refuse(NONE_SUCH);
        }
        now.merge(k, n, parts);
        return answer(now.count);
    }

    public boolean rule(int odds) {
        if (!within(odds, 0, MOST_ODDS)) {
            return deny(BAD_NUMBER);
        }
        now.odds = odds;
        return agree();
    }

    // ---- what is caught

    public int gapAt(int k) {
        return sieved() ? answerOrNone(sieve.findGap(k)) : refuse(CANNOT_BE);
    }

    public boolean gaps() {
        return sieved() ? tell(sieve.countGaps(), sieve.span) : deny(CANNOT_BE);
    }

    public boolean weight() {
        int span = now.spanOf(now.on);
        return span == TOO_WIDE ? deny(CANNOT_BE) : tell(now.caughtTimes(span), span);
    }

    public boolean alone(int k) {
        if (!now.isThere(k)) {
            return deny(BAD_NUMBER);
        }
        if (!sieved()) {
            return deny(CANNOT_BE);
        }
        return now.isOn(k) ? tell(sieve.countOnlyBy(now, k), sieve.span) : deny(NONE_SUCH);
    }

    public int needless() {
        return sieved() ? answer(sieve.needlessOf(now)) : refuse(CANNOT_BE);
    }

    public int fewest() {
        return sieved() ? answer(Integer.bitCount(sieve.leastSet(now))) : refuse(CANNOT_BE);
    }

    public int fewestSet() {
        return sieved() ? answer(sieve.leastSet(now)) : refuse(CANNOT_BE);
    }

    public int meet(int k, int other) {
        if (!now.isThere(k) || !now.isThere(other) || k == other) {
            return refuse(BAD_NUMBER);
        }
        return answerOrNone(now.leastOfBoth(k, other));
    }

    public int thick() {
        return sieved() ? answer(Integer.bitCount(now.catchers(sieve.thickestNumber(now)))) : refuse(CANNOT_BE);
    }

    public int ask() {
        if (!sieved()) {
            return refuse(CANNOT_BE);
        }
        return now.on == 0 ? refuse(NONE_SUCH) : answer(sieve.thickestNumber(now));
    }

    public int turnsBy() {
        return sieved() ? answer(sieve.leastTurn()) : refuse(CANNOT_BE);
    }

    private boolean sieved() {
        return sieve.fill(now, now.on);
    }

    // ---- the tree

    public int tree(int what) {
        if (!within(what, 0, 3)) {
            return refuse(BAD_NUMBER);
        }
        int span = now.spanOf(now.on);
        if (span == TOO_WIDE) {
            return refuse(CANNOT_BE);
        }
        tree.grow(now, span);
        switch (what) {
            case 0:
                return answer(tree.caughtLeaves);
            case 1:
                return answer(tree.freeLeaves);
            case 2:
                return answer(tree.nodes);
            default:
                return answer(tree.widest);
        }
    }

    public int leafOf(int n) {
        if (!within(n, 0, MOST_NUMBER)) {
            return refuse(BAD_NUMBER);
        }
        int span = now.spanOf(now.on);
        return span == TOO_WIDE ? refuse(CANNOT_BE) : answer(Tree.leafWith(now, span, n));
    }

    // ---- choices

    public int choices(int tray, int n, int sort) {
        int trouble = choiceTrouble(tray, n, sort);
        return trouble == FINE ? answer(choices.countWays(sort)) : refuse(trouble);
    }

    public int choiceAt(int tray, int n, int sort, int k) {
        if (!within(k, 0, n - 1L)) {
            return refuse(BAD_NUMBER);
        }
        int trouble = choiceTrouble(tray, n, sort);
        if (trouble != FINE) {
            return refuse(trouble);
        }
        return choices.findFirst(sort) ? answer(choices.restAt(k)) : refuse(NONE_SUCH);
    }

    private int choiceTrouble(int tray, int n, int sort) {
        if (!within(n, 0, MOST_MODULI) || !within(sort, 0, Choices.SORTS - 1)) {
            return BAD_NUMBER;
        }
        int trouble = trayTrouble(tray);
        if (trouble != FINE) {
            return trouble;
        }
        if (!trays[tray].holds(0, n)) {
            return NO_PLACE;
        }
        if (!choices.takeModuli(trays[tray], n)) {
            return BAD_IN_TRAY;
        }
        return choices.product() > MOST_SPAN ? CANNOT_BE : FINE;
    }

    // ---- games, odds

    public int game(int n) {
        if (!within(n, 0, MOST_TURNS)) {
            return refuse(BAD_NUMBER);
        }
        if (now.spanOf(now.on) == TOO_WIDE) {
            return refuse(CANNOT_BE);
        }
        return answer(Game.worth(now, sieve, now.on, n, true));
    }

    public int moveOf(int n) {
        if (!within(n, 1, MOST_TURNS)) {
            return refuse(BAD_NUMBER);
        }
        if (now.spanOf(now.on) == TOO_WIDE) {
            return refuse(CANNOT_BE);
        }
        return answerOrNone(Game.bestSwitch(now, sieve, n));
    }

    public boolean uncaught(int n, int k) {
        if (!within(n, 0, MOST_CHANCES) || !within(k, 0, MOST_CHANCES)) {
            return deny(BAD_NUMBER);
        }
        if (!sieved()) {
            return deny(CANNOT_BE);
        }
        int open = sieve.countGaps();
        long by = commonDivisor(open, sieve.span);
        long open1 = partBy(open, by);
        long span1 = partBy(sieve.span, by);
        long sum = 0;
        for (int j = k; j <= n; j++) {
            sum += ways(n, j) * power(open1, j) * power(span1 - open1, n - j);
        }
        return tell(sum, power(span1, n));
    }

    public int copySystem(int tray) {
        int trouble = trayTrouble(tray);
        if (trouble != FINE) {
            return refuse(trouble);
        }
        if (!trays[tray].holds(0, 2 * now.count)) {
            return refuse(NO_PLACE);
        }
        for (int k = 0; k < now.count; k++) {
            trays[tray].put(2 * k, now.rest[k]);
            trays[tray].put(2 * k + 1, now.modulus[k]);
        }
        return answer(now.count);
    }

    // ---- DAYS

    public int live(int seed) {
        if (!within(seed, 0, MOST_NUMBER)) {
            return refuse(BAD_NUMBER);
        }
        if (!days.there) {
            return refuse(NONE_SUCH);
        }
        life.run(now, days, seed, sieve);
        return answer(life.done);
    }

    public int lived(int what) {
        if (!within(what, 0, 4)) {
            return refuse(BAD_NUMBER);
        }
        if (!life.lived) {
            return refuse(NONE_SUCH);
        }
        switch (what) {
            case 0:
                return answer(life.missed);
            case 1:
                return answer(life.becameOn);
            case 2:
                return answer(life.becameOff);
            case 3:
                return answer(life.slides);
            default:
                return answer(life.cutShort ? 1 : 0);
        }
    }

    public boolean mean(int seed, int many) {
        if (!within(seed, 0, MOST_NUMBER) || !within(many, 1, MOST_SEEDS) || seed + many - 1 > MOST_NUMBER) {
            return deny(BAD_NUMBER);
        }
        if (!days.there) {
            return deny(NONE_SUCH);
        }
        int sum = 0;
        for (int i = 0; i < many; i++) {
            trial.copyFrom(now);
            trialLife.run(trial, days, seed + i, sieve);
            sum += Integer.bitCount(trial.on);
        }
        return tell(sum, many);
    }

    // ---- MARKS

    public int mark() {
        if (marks >= MARKS) {
            return refuse(FULL);
        }
        keptClasses[marks].copyFrom(now);
        keptDays[marks].copyFrom(days);
        marks++;
        return answer(marks);
    }

    public int undo() {
        if (marks < 1) {
            return refuse(NONE_SUCH);
        }
        marks--;
        now.copyFrom(keptClasses[marks]);
        days.copyFrom(keptDays[marks]);
        return answer(marks);
    }

    // ---- answers

    private int refuse(int why) {
        status = why;
        return NONE;
    }

    private boolean deny(int why) {
        status = why;
        return false;
    }

    private int answer(int value) {
        status = FINE;
        return value;
    }

    private int answerOrNone(int value) {
        return value == NONE ? refuse(NONE_SUCH) : answer(value);
    }

    private boolean agree() {
        status = FINE;
        return true;
    }

    private boolean tell(long newTop, long newBottom) {
        long by = commonDivisor(newTop, newBottom);
        top = partBy(newTop, by);
        bottom = partBy(newBottom, by);
        return agree();
    }

    // ---- numbers

    private static boolean within(long v, long low, long high) {
        return v >= low && v <= high;
    }

    private static boolean isIn(int set, int k) {
        return ((set >> k) & 1) == 1;
    }

    /** All division by what is no constant goes through here and partBy, so that none is by 0. */
    private static int leftBy(int v, int by) {
        if (by < 1) {
            return 0;
        }
        int left = v % by;
        return left < 0 ? left + by : left;
    }

    private static long partBy(long v, long by) {
        return by < 1 ? 0 : v / by;
    }

    private static int partBy(int v, int by) {
        return by < 1 ? 0 : v / by;
    }

    private static long commonDivisor(long a, long b) {
        long great = a;
        long small = b;
        for (int i = 0; i < MOST_DIVISIONS && small > 0; i++) {
            long left = great % small;
            great = small;
            small = left;
        }
        return great;
    }

    private static int leastPrimeOf(int n) {
        for (int p = 2; p * p <= n; p++) {
            if (leftBy(n, p) == 0) {
                return p;
            }
        }
        return n;
    }

    private static long power(long base, int n) {
        long product = 1;
        for (int i = 0; i < n; i++) {
            product *= base;
        }
        return product;
    }

    /** How many sets of j there are among n. */
    private static long ways(int n, int j) {
        long many = 1;
        for (int i = 0; i < j; i++) {
            many = partBy(many * (n - i), i + 1L);
        }
        return many;
    }

    /** The bits of the numbers below WORD_BITS that the modulus divides. */
    private static long combOf(int modulus) {
        long comb = 0;
        for (int v = 0; v < WORD_BITS; v += Math.max(1, modulus)) {
            comb |= 1L << v;
        }
        return comb;
    }

    /** The numbers of a class in one word of a row of bits over the span. */
    private static long wordOf(long comb, int modulus, int rest, int word) {
        return comb << leftBy(rest - word * WORD_BITS, modulus);
    }

    /** The bits of a word that stand for numbers below the span. */
    private static long insideOf(int span, int word) {
        int bits = span - word * WORD_BITS;
        return bits >= WORD_BITS ? -1L : (1L << Math.max(0, bits)) - 1;
    }

    private static boolean hasBit(long[] row, int v) {
        int word = v / WORD_BITS;
        return within(word, 0, row.length - 1) && ((row[word] >> (v % WORD_BITS)) & 1L) == 1L;
    }

    private static void putBit(long[] row, int v) {
        int word = v / WORD_BITS;
        if (within(word, 0, row.length - 1)) {
            row[word] |= 1L << (v % WORD_BITS);
        }
    }

    private static int wordsFor(int span) {
        return Math.min(SPAN_WORDS, (span + WORD_BITS - 1) / WORD_BITS);
    }

    /** A row of numbers of one width, or none. */
    private static final class Tray {
        static final int SORTS = 4;

        private final long[] row = new long[TRAY_PLACES];
        private int sort = 0;
        private int size = NONE;

        void lay(int newSort, int many) {
            sort = newSort;
            size = many;
            Arrays.fill(row, 0L);
        }

        boolean isMissing() {
            return size == NONE;
        }

        boolean holds(int place, int many) {
            return place >= 0 && many >= 0 && (long) place + many <= size;
        }

        long at(int place) {
            return holds(place, 1) ? row[place] : NONE;
        }

        void put(int place, long v) {
            if (holds(place, 1)) {
                row[place] = cut(v);
            }
        }

        private long cut(long v) {
            switch (sort) {
                case 0:
                    return (byte) v;
                case 1:
                    return (short) v;
                case 2:
                    return (int) v;
                default:
                    return v;
            }
        }
    }

    /** A system as it is now: its odds and its classes. */
    private static final class Classes {
        private final int[] rest = new int[MOST_CLASSES];
        private final int[] modulus = new int[MOST_CLASSES];
        /** 0 for a class without a name. */
        private final long[] name = new long[MOST_CLASSES];
        private int count = 0;
        private int on = 0;
        private int odds = USUAL_ODDS;

        void clear() {
            count = 0;
            on = 0;
            odds = USUAL_ODDS;
        }

        void copyFrom(Classes other) {
            System.arraycopy(other.rest, 0, rest, 0, MOST_CLASSES);
            System.arraycopy(other.modulus, 0, modulus, 0, MOST_CLASSES);
            System.arraycopy(other.name, 0, name, 0, MOST_CLASSES);
            count = other.count;
            on = other.on;
            odds = other.odds;
        }

        boolean isThere(int k) {
            return k >= 0 && k < count;
        }

        boolean isOn(int k) {
            return k >= 0 && k < count && isIn(on, k);
        }

        int find(long wanted) {
            for (int k = 0; k < count; k++) {
                if (name[k] == wanted) {
                    return k;
                }
            }
            return NONE;
        }

        void append(int newRest, int newModulus, boolean isOn, long newName) {
            if (count < MOST_CLASSES) {
                rest[count] = leftBy(newRest, newModulus);
                modulus[count] = newModulus;
                name[count] = newName;
                on = isOn ? on | 1 << count : on & ~(1 << count);
                count++;
            }
        }

        void remove(int k) {
            if (!isThere(k)) {
                return;
            }
            int behind = count - k - 1;
            System.arraycopy(rest, k + 1, rest, k, behind);
            System.arraycopy(modulus, k + 1, modulus, k, behind);
            System.arraycopy(name, k + 1, name, k, behind);
            int ahead = (1 << k) - 1;
            on = (on & ahead) | ((on >> 1) & ~ahead);
            count--;
        }

        void flip(int k) {
            if (isThere(k)) {
                on ^= 1 << k;
            }
        }

        void slide(int n) {
            for (int k = 0; k < count; k++) {
                rest[k] = leftBy(rest[k] + n, modulus[k]);
            }
        }

        void stretch(int n) {
            for (int k = 0; k < count; k++) {
                rest[k] *= n;
                modulus[k] *= n;
            }
        }

        int partTrouble(int k, int n) {
            if (count + n - 1 > MOST_CLASSES) {
                return FULL;
            }
            return modulus[k] * n > MOST_MODULUS ? CANNOT_BE : FINE;
        }

        void part(int k, int n) {
            int old = modulus[k];
            modulus[k] = old * n;
            for (int i = 1; i < n; i++) {
                append(rest[k] + i * old, old * n, isOn(k), 0);
            }
        }

        /** The set of the classes that one and its fellows would be parted into by n; 0 if one lacks. */
        int partsWith(int k, int n) {
            int step = partBy(modulus[k], n);
            int set = 1 << k;
            for (int i = 0; i < n; i++) {
                int wanted = leftBy(rest[k], step) + i * step;
                if (wanted != rest[k]) {
                    int fellow = firstLike(k, wanted);
                    if (fellow == NONE) {
                        return 0;
                    }
                    set |= 1 << fellow;
                }
            }
            return set;
        }

        private int firstLike(int k, int wanted) {
            for (int i = 0; i < count; i++) {
                if (modulus[i] == modulus[k] && rest[i] == wanted && isOn(i) == isOn(k)) {
                    return i;
                }
            }
            return NONE;
        }

        void merge(int k, int n, int parts) {
            modulus[k] = partBy(modulus[k], n);
            rest[k] = leftBy(rest[k], modulus[k]);
            // From behind, so that the numbers of those still to go stay as they are in the set.
            for (int i = count - 1; i >= 0; i--) {
                if (i != k && isIn(parts, i)) {
                    remove(i);
                }
            }
        }

        int greatestModulus() {
            int greatest = 0;
            for (int k = 0; k < count; k++) {
                greatest = Math.max(greatest, modulus[k]);
            }
            return greatest;
        }

        int spanOf(int set) {
            int span = 1;
            for (int k = 0; k < count && span != TOO_WIDE; k++) {
                if (isIn(set, k)) {
                    span *= partBy(modulus[k], (int) commonDivisor(span, modulus[k]));
                    span = span > MOST_SPAN ? TOO_WIDE : span;
                }
            }
            return span;
        }

        private boolean takes(int k, int n) {
            return leftBy(n, modulus[k]) == rest[k];
        }

        int catchers(int n) {
            int set = 0;
            for (int k = 0; k < count; k++) {
                if (isOn(k) && takes(k, n)) {
                    set |= 1 << k;
                }
            }
            return set;
        }

        int leastModulusOf(int set) {
            int best = NONE;
            for (int k = 0; k < count; k++) {
                if (isIn(set, k) && (best == NONE || modulus[k] < modulus[best])) {
                    best = k;
                }
            }
            return best;
        }

        /** Whether a class, on or off, has a number of which a is left by m. */
        private boolean touches(int k, int a, int m) {
            return leftBy(a - rest[k], (int) commonDivisor(m, modulus[k])) == 0;
        }

        int touching(int set, int a, int m) {
            int some = 0;
            for (int k = 0; k < count; k++) {
                if (isIn(set, k) && touches(k, a, m)) {
                    some |= 1 << k;
                }
            }
            return some;
        }

        boolean anyModulusDivides(int set, int m) {
            for (int k = 0; k < count; k++) {
                if (isIn(set, k) && leftBy(m, modulus[k]) == 0) {
                    return true;
                }
            }
            return false;
        }

        int leastOfBoth(int k, int other) {
            for (int i = 0; i < modulus[other]; i++) {
                int v = rest[k] + i * modulus[k];
                if (takes(other, v)) {
                    return v;
                }
            }
            return NONE;
        }

        int couples() {
            int many = 0;
            for (int k = 0; k < count; k++) {
                if (isOn(k)) {
                    int before = on & ((1 << k) - 1);
                    many += Integer.bitCount(touching(before, rest[k], modulus[k]));
                }
            }
            return many;
        }

        boolean allUnlike() {
            long met = 1L << 1;
            for (int k = 0; k < count; k++) {
                if (isOn(k)) {
                    long bit = 1L << modulus[k];
                    if ((met & bit) != 0) {
                        return false;
                    }
                    met |= bit;
                }
            }
            return true;
        }

        /** How often the numbers below the span are caught, each as often as classes catch it. */
        int caughtTimes(int span) {
            int times = 0;
            for (int k = 0; k < count; k++) {
                if (isOn(k)) {
                    times += partBy(span, modulus[k]);
                }
            }
            return times;
        }
    }

    /** Which numbers below the span are caught, as rows of bits. */
    private static final class Sieve {
        private final long[] once = new long[SPAN_WORDS];
        private final long[] twice = new long[SPAN_WORDS];
        /** A bit for each set of classes. */
        private final long[] failing = new long[(1 << MOST_CLASSES) / WORD_BITS];
        private int span = 1;
        private int words = 1;

        boolean fill(Classes all, int set) {
            int newSpan = all.spanOf(set);
            if (newSpan == TOO_WIDE) {
                return false;
            }
            span = newSpan;
            words = wordsFor(span);
            Arrays.fill(once, 0L);
            Arrays.fill(twice, 0L);
            for (int k = 0; k < all.count; k++) {
                if (isIn(set, k)) {
                    lay(all.modulus[k], all.rest[k]);
                }
            }
            return true;
        }

        private void lay(int modulus, int rest) {
            long comb = combOf(modulus);
            int back = leftBy(WORD_BITS, modulus);
            int offset = rest;
            for (int w = 0; w < words; w++) {
                long bits = comb << offset;
                twice[w] |= once[w] & bits;
                once[w] |= bits;
                offset = offset < back ? offset - back + modulus : offset - back;
            }
        }

        private long openIn(int word) {
            return ~once[word] & insideOf(span, word);
        }

        int countGaps() {
            int many = 0;
            for (int w = 0; w < words; w++) {
                many += Long.bitCount(openIn(w));
            }
            return many;
        }

        int findGap(int k) {
            int ahead = 0;
            for (int w = 0; w < words && k >= 0; w++) {
                int many = Long.bitCount(openIn(w));
                if (k < ahead + many) {
                    return w * WORD_BITS + placeOfBit(openIn(w), k - ahead);
                }
                ahead += many;
            }
            return NONE;
        }

        private static int placeOfBit(long bits, int k) {
            long left = bits;
            for (int i = 0; i < k; i++) {
                left &= left - 1;
            }
            return Long.bitCount((left & -left) - 1);
        }

        int countOnlyBy(Classes all, int k) {
            int modulus = all.modulus[k];
            long comb = combOf(modulus);
            int many = 0;
            for (int w = 0; w < words; w++) {
                long bits = wordOf(comb, modulus, all.rest[k], w) & insideOf(span, w);
                many += Long.bitCount(bits & ~twice[w]);
            }
            return many;
        }

        int needlessOf(Classes all) {
            int set = 0;
            for (int k = 0; k < all.count; k++) {
                if (all.isOn(k) && countOnlyBy(all, k) == 0) {
                    set |= 1 << k;
                }
            }
            return set;
        }

        int thickestNumber(Classes all) {
            int best = 0;
            int most = 0;
            for (int v = 0; v < span; v++) {
                int many = Integer.bitCount(all.catchers(v));
                if (many > most) {
                    most = many;
                    best = v;
                }
            }
            return best;
        }

        int leastSet(Classes all) {
            int sets = 1 << all.count;
            findFailing(all, sets);
            int best = all.on;
            for (int set = 0; set < sets; set++) {
                boolean allOn = (set & ~all.on) == 0;
                if (allOn && !hasBit(failing, sets - 1 - set) && Integer.bitCount(set) < Integer.bitCount(best)) {
                    best = set;
                }
            }
            return best;
        }

        /** Finds the sets that can't be left out: some number is caught, but by none outside of the set. */
        private void findFailing(Classes all, int sets) {
            Arrays.fill(failing, 0L);
            for (int v = 0; v < span; v++) {
                int set = all.catchers(v);
                if (set != 0) {
                    putBit(failing, set);
                }
            }
            for (int k = 0; k < all.count; k++) {
                for (int set = 0; set < sets; set++) {
                    if (isIn(set, k) && hasBit(failing, set ^ (1 << k))) {
                        putBit(failing, set);
                    }
                }
            }
        }

        /** What is caught comes again by the span, so the least turn divides it. */
        int leastTurn() {
            for (int n = 1; n < span; n++) {
                if (leftBy(span, n) == 0 && comesAgainBy(n)) {
                    return n;
                }
            }
            return span;
        }

        private boolean comesAgainBy(int n) {
            for (int v = 0; v + n < span; v++) {
                if (hasBit(once, v) != hasBit(once, v + n)) {
                    return false;
                }
            }
            return true;
        }
    }

    /** The test that splits the numbers by primes. */
    private static final class Tree {
        /** A span has fewer primes than this. */
        static final int MOST_DEPTH = 40;

        private int caughtLeaves = 0;
        private int freeLeaves = 0;
        private int nodes = 0;
        private int widest = 0;

        void grow(Classes all, int span) {
            caughtLeaves = 0;
            freeLeaves = 0;
            nodes = 0;
            widest = 0;
            visit(this, all, all.on, 0, 1, span, 0);
        }

        /** Only the classes that touch a node can touch a part of it, so the set shrinks on the way. */
        private static void visit(Tree tree, Classes all, int set, int a, int m, int span, int depth) {
            tree.nodes++;
            tree.widest = Math.max(tree.widest, m);
            int touching = all.touching(set, a, m);
            if (touching == 0) {
                tree.freeLeaves++;
            } else if (all.anyModulusDivides(touching, m)) {
                tree.caughtLeaves++;
            } else if (depth < MOST_DEPTH) {
                int prime = leastPrimeOf(partBy(span, m));
                for (int i = 0; i < prime; i++) {
                    visit(tree, all, touching, a + i * m, m * prime, span, depth + 1);
                }
            }
        }

        static int leafWith(Classes all, int span, int n) {
            int m = 1;
            for (int depth = 0; depth < MOST_DEPTH; depth++) {
                int touching = all.touching(all.on, leftBy(n, m), m);
                if (touching == 0 || all.anyModulusDivides(touching, m)) {
                    return m;
                }
                m *= leastPrimeOf(partBy(span, m));
            }
            return m;
        }
    }

    /** The ways to give moduli their rests. */
    private static final class Choices {
        static final int SORTS = 3;
        private static final int ALL = 0;
        private static final int NOT_TWICE = 2;

        private final int[] moduli = new int[MOST_MODULI];
        private final int[] rests = new int[MOST_MODULI];
        /** At each place, what the moduli ahead of it catch; ahead of the first one nothing is, ever. */
        private final long[][] caughtAhead = new long[MOST_MODULI + 1][SPAN_WORDS];
        private int many = 0;
        private int sort = ALL;
        private int span = 1;

        boolean takeModuli(Tray tray, int n) {
            for (int i = 0; i < n && i < MOST_MODULI; i++) {
                long v = tray.at(i);
                if (!within(v, 1, MOST_MODULUS)) {
                    return false;
                }
                moduli[i] = (int) v;
            }
            many = Math.min(n, MOST_MODULI);
            return true;
        }

        long product() {
            long product = 1;
            for (int i = 0; i < many; i++) {
                product *= moduli[i];
            }
            return product;
        }

        int countWays(int newSort) {
            begin(newSort);
            return waysFrom(this, 0, false);
        }

        boolean findFirst(int newSort) {
            begin(newSort);
            return waysFrom(this, 0, true) > 0;
        }

        int restAt(int k) {
            return within(k, 0, MOST_MODULI - 1) ? rests[k] : NONE;
        }

        private void begin(int newSort) {
            sort = newSort;
            span = 1;
            for (int i = 0; i < many; i++) {
                span *= partBy(moduli[i], (int) commonDivisor(span, moduli[i]));
            }
        }

        /** With justOne it ends at the first way found, whose rests are then in the row. */
        private static int waysFrom(Choices choices, int place, boolean justOne) {
            if (place >= choices.many) {
                return choices.sort == NOT_TWICE || choices.isAllCaught(place) ? 1 : 0;
            }
            // A shift makes of each way another one, so the first rest may stay 0.
            int tries = place == 0 ? 1 : choices.moduli[place];
            int ways = 0;
            for (int rest = 0; rest < tries; rest++) {
                choices.rests[place] = rest;
                if (choices.lay(place, rest)) {
                    ways += waysFrom(choices, place + 1, justOne);
                }
                if (justOne && ways > 0) {
                    return ways;
                }
            }
            return place == 0 ? ways * choices.moduli[0] : ways;
        }

        /** Answers false if a number would be caught twice where that must not be. */
        private boolean lay(int place, int rest) {
            long comb = combOf(moduli[place]);
            long[] ahead = caughtAhead[place];
            long[] then = caughtAhead[place + 1];
            int words = wordsFor(span);
            for (int w = 0; w < words; w++) {
                long bits = wordOf(comb, moduli[place], rest, w) & insideOf(span, w);
                if (sort != ALL && (ahead[w] & bits) != 0) {
                    return false;
                }
                then[w] = ahead[w] | bits;
            }
            return true;
        }

        private boolean isAllCaught(int place) {
            int words = wordsFor(span);
            for (int w = 0; w < words; w++) {
                if (caughtAhead[place][w] != insideOf(span, w)) {
                    return false;
                }
            }
            return true;
        }
    }

    /** The game of two who switch. */
    private static final class Game {
        /** What a set of classes that are on comes to in the end, by best play. */
        private static int worth(Classes all, Sieve sieve, int set, int turns, boolean wantsMany) {
            if (turns < 1) {
                return sieve.fill(all, set) ? partBy(sieve.countGaps() * MOST_SPAN, sieve.span) : 0;
            }
            int best = worth(all, sieve, set, turns - 1, !wantsMany);
            for (int k = 0; k < all.count; k++) {
                int then = set ^ (1 << k);
                if (all.spanOf(then) != TOO_WIDE) {
                    int value = worth(all, sieve, then, turns - 1, !wantsMany);
                    best = wantsMany ? Math.max(best, value) : Math.min(best, value);
                }
            }
            return best;
        }

        static int bestSwitch(Classes all, Sieve sieve, int turns) {
            int best = worth(all, sieve, all.on, turns, true);
            for (int k = 0; k < all.count; k++) {
                int then = all.on ^ (1 << k);
                if (all.spanOf(then) != TOO_WIDE && worth(all, sieve, then, turns - 1, false) == best) {
                    return k;
                }
            }
            return NONE;
        }
    }

    /** The tape, the tokens of the text that is read from it, and the latest fault. */
    private static final class Reader {
        private static final int NUMBER_DIGITS = 4;

        private final byte[] tape = new byte[SYSTEM_BYTES];
        private int fed = 0;
        private int length = 0;
        /** The tokens in a row, the text's end behind them: what each is, where, its number or name. */
        private final int[] sorts = new int[SYSTEM_BYTES + 1];
        private final int[] places = new int[SYSTEM_BYTES + 1];
        private final long[] values = new long[SYSTEM_BYTES + 1];
        private int tokens = 0;
        private int at = 0;
        private long taken = 0;
        private int fault = NONE;
        private int faultPlace = NONE;

        void append(int four) {
            for (int shift = 24; shift >= 0 && fed < SYSTEM_BYTES; shift -= 8) {
                tape[fed] = (byte) (four >> shift);
                fed++;
            }
        }

        /** All tokens are found ahead of any reading, so that the tape can be empty at once. */
        void begin(int n) {
            length = Math.max(0, Math.min(n, SYSTEM_BYTES));
            fed = 0;
            fault = 0;
            faultPlace = NONE;
            tokens = 0;
            at = 0;
            int from = skipBlanks(0);
            for (int i = 0; i < SYSTEM_BYTES && from < length; i++) {
                from = skipBlanks(findToken(from));
            }
            keep(TEXT_END, length, 0);
        }

        private void keep(int sort, int place, long value) {
            if (tokens <= SYSTEM_BYTES) {
                sorts[tokens] = sort;
                places[tokens] = place;
                values[tokens] = value;
                tokens++;
            }
        }

        private int skipBlanks(int from) {
            int to = from;
            while (to < length && (tape[to] == ' ' || tape[to] == 10)) {
                to++;
            }
            return to;
        }

        /** Keeps the token that begins here and answers where it ends. */
        private int findToken(int from) {
            if (isLetter(tape[from])) {
                return findWord(from);
            }
            if (isDigit(tape[from])) {
                return findNumber(from);
            }
            keep(signOf(tape[from]), from, 0);
            return from + 1;
        }

        private int findWord(int from) {
            int to = from;
            long name = 0;
            while (to < length && isLetter(tape[to])) {
                name = name * 32 + tape[to] - 'a' + 1;
                to++;
            }
            keep(to - from > NAME_LETTERS ? LONG_WORD : wordSort(from, to), from, name);
            return to;
        }

        private int findNumber(int from) {
            int to = from;
            long number = 0;
            while (to < length && isDigit(tape[to])) {
                number = number * 10 + tape[to] - '0';
                to++;
            }
            keep(to - from > NUMBER_DIGITS ? NO_TOKEN : NUMBER, from, number);
            return to;
        }

        private int wordSort(int from, int to) {
            int words = KEPT_WORDS.length() / NAME_LETTERS;
            for (int i = 0; i < words; i++) {
                if (isKeptWord(i * NAME_LETTERS, from, to)) {
                    return ODDS + i;
                }
            }
            return NAME;
        }

        private boolean isKeptWord(int start, int from, int to) {
            for (int i = 0; i < NAME_LETTERS && start + i < KEPT_WORDS.length(); i++) {
                int letter = from + i < to ? tape[from + i] : ' ';
                if (KEPT_WORDS.charAt(start + i) != letter) {
                    return false;
                }
            }
            return true;
        }

        private static boolean isLetter(byte b) {
            return b >= 'a' && b <= 'z';
        }

        private static boolean isDigit(byte b) {
            return b >= '0' && b <= '9';
        }

        private static int signOf(byte b) {
            switch (b) {
                case ';':
                    return SEMICOLON;
                case '<':
                    return LESS;
                case '>':
                    return MORE;
                case '=':
                    return EQUAL;
                default:
                    return NO_TOKEN;
            }
        }

        int token() {
            return sorts[at];
        }

        long value() {
            return values[at];
        }

        void step() {
            if (at + 1 < tokens) {
                at++;
            }
        }

        /** Tells the fault of the token that stands here; always false. */
        boolean blame(int kind) {
            fault = sorts[at] == NO_TOKEN ? FAULT_TOKEN : kind;
            faultPlace = places[at];
            return false;
        }

        boolean take(int wanted) {
            if (sorts[at] != wanted) {
                return blame(FAULT_PLACE);
            }
            step();
            return true;
        }

        /** What is taken stays to be asked for until the next number is. */
        boolean takeNumber(int low, int high) {
            if (sorts[at] != NUMBER) {
                return blame(FAULT_PLACE);
            }
            if (!within(values[at], low, high)) {
                return blame(FAULT_NUMBER);
            }
            taken = values[at];
            step();
            return true;
        }

        int takenNumber() {
            return (int) taken;
        }
    }

    /** Reads a text as a system. */
    private static final class SystemText {
        static boolean take(Reader reader, Classes out) {
            out.clear();
            boolean oddsTold = false;
            for (int i = 0; i <= SYSTEM_BYTES && reader.token() != TEXT_END; i++) {
                boolean good;
                if (reader.token() == ODDS) {
                    good = oddsTold ? reader.blame(FAULT_ODDS) : takeOdds(reader, out);
                    oddsTold = true;
                } else if (reader.token() == CLASS) {
                    good = out.count >= MOST_CLASSES ? reader.blame(FAULT_MANY) : takeClass(reader, out);
                } else {
                    good = reader.blame(FAULT_PLACE);
                }
                if (!good) {
                    return false;
                }
            }
            return true;
        }

        private static boolean takeOdds(Reader reader, Classes out) {
            reader.step();
            if (!reader.takeNumber(0, MOST_ODDS)) {
                return false;
            }
            out.odds = reader.takenNumber();
            return reader.take(SEMICOLON);
        }

        private static boolean takeClass(Reader reader, Classes out) {
            reader.step();
            if (reader.token() != NAME) {
                return reader.blame(FAULT_PLACE);
            }
            long name = reader.value();
            if (out.find(name) != NONE) {
                return reader.blame(FAULT_NAME);
            }
            reader.step();
            if (!reader.take(REST) || !reader.takeNumber(0, MOST_REST)) {
                return false;
            }
            int rest = reader.takenNumber();
            if (!reader.take(BY) || !reader.takeNumber(1, MOST_MODULUS)) {
                return false;
            }
            int modulus = reader.takenNumber();
            boolean isOff = reader.token() == OFF;
            if (isOff) {
                reader.step();
            }
            out.append(rest, modulus, !isOff, name);
            return reader.take(SEMICOLON);
        }
    }

    /** Days as rows: each step and each end has an entry, named by the token that it begins with. */
    private static final class Days {
        static final int MOST_STEPS = 30;
        static final int MOST_ENTRIES = 2 * MOST_STEPS;

        private final int[] kind = new int[MOST_ENTRIES];
        /** Of a when: the word that its test begins with, and the sign that compares. */
        private final int[] test = new int[MOST_ENTRIES];
        private final int[] sign = new int[MOST_ENTRIES];
        private final int[] who = new int[MOST_ENTRIES];
        private final int[] number = new int[MOST_ENTRIES];
        /** Of a when or loop its end, of an end its when or loop. */
        private final int[] partner = new int[MOST_ENTRIES];
        private int count = 0;
        private int steps = 0;
        private boolean there = false;

        void clear() {
            count = 0;
            steps = 0;
            there = false;
        }

        void copyFrom(Days other) {
            System.arraycopy(other.kind, 0, kind, 0, MOST_ENTRIES);
            System.arraycopy(other.test, 0, test, 0, MOST_ENTRIES);
            System.arraycopy(other.sign, 0, sign, 0, MOST_ENTRIES);
            System.arraycopy(other.who, 0, who, 0, MOST_ENTRIES);
            System.arraycopy(other.number, 0, number, 0, MOST_ENTRIES);
            System.arraycopy(other.partner, 0, partner, 0, MOST_ENTRIES);
            count = other.count;
            steps = other.steps;
            there = other.there;
        }

        /** A new entry, or the last one again if there were too many, which the texts' limits rule out. */
        int append(int newKind) {
            int at = Math.min(count, MOST_ENTRIES - 1);
            kind[at] = newKind;
            count = at + 1;
            return at;
        }

        void pair(int opener, int end) {
            partner[opener] = end;
            partner[end] = opener;
        }
    }

    /** Reads a text as days. */
    private static final class DaysText {
        private static final int MOST_OPEN = 3;
        private static final int MOST_SHIFT = 59;
        private static final int MOST_ROUNDS = 99;

        static boolean take(Reader reader, Classes all, Days out) {
            out.clear();
            int inner = NONE;
            for (int i = 0; i <= DAYS_BYTES && reader.token() != TEXT_END; i++) {
                int kind = reader.token();
                if (!takeOne(reader, all, out, inner)) {
                    return false;
                }
                inner = innermostBehind(out, kind, inner);
            }
            if (inner != NONE) {
                return reader.blame(FAULT_PLACE);
            }
            out.there = true;
            return true;
        }

        /** While a when or loop is open, its partner is the one around it. */
        private static int innermostBehind(Days out, int kind, int inner) {
            int last = out.count - 1;
            if (isOpener(kind)) {
                out.partner[last] = inner;
                return last;
            }
            if (kind != END || inner == NONE) {
                return inner;
            }
            int around = out.partner[inner];
            out.pair(inner, last);
            return around;
        }

        private static int depthOf(Days out, int inner) {
            int depth = 0;
            int at = inner;
            for (int i = 0; i < MOST_OPEN && at != NONE; i++) {
                depth++;
                at = out.partner[at];
            }
            return depth;
        }

        private static boolean isOpener(int kind) {
            return kind == WHEN || kind == LOOP;
        }

        private static boolean isStep(int kind) {
            return kind == ON || kind == OFF || kind == SHIFT || kind == SPLIT || kind == ANY || kind == STOP
                    || isOpener(kind);
        }

        private static boolean takeOne(Reader reader, Classes all, Days out, int inner) {
            int kind = reader.token();
            if (kind == END && inner != NONE) {
                out.append(END);
                reader.step();
                return reader.take(SEMICOLON);
            }
            if (!isStep(kind)) {
                return reader.blame(FAULT_PLACE);
            }
            if (out.steps >= Days.MOST_STEPS) {
                return reader.blame(FAULT_MANY);
            }
            if (isOpener(kind) && depthOf(out, inner) >= MOST_OPEN) {
                return reader.blame(FAULT_DEEP);
            }
            int at = out.append(kind);
            out.steps++;
            reader.step();
            if (!takeRest(reader, all, out, at)) {
                return false;
            }
            // A step tells one number at most; where it tells none, this is never asked for.
            out.number[at] = reader.takenNumber();
            return reader.take(SEMICOLON);
        }

        private static boolean takeRest(Reader reader, Classes all, Days out, int at) {
            switch (out.kind[at]) {
                case ON:
                case OFF:
                    return takeWho(reader, all, out, at);
                case SHIFT:
                    return reader.takeNumber(0, MOST_SHIFT);
                case SPLIT:
                    return takeWho(reader, all, out, at) && reader.takeNumber(LEAST_PARTS, MOST_PARTS);
                case WHEN:
                    return takeTest(reader, all, out, at);
                case LOOP:
                    return reader.takeNumber(1, MOST_ROUNDS);
                default:
                    return true;
            }
        }

        private static boolean takeTest(Reader reader, Classes all, Days out, int at) {
            int kind = reader.token();
            if (kind != COVERED && kind != CAUGHT && kind != ON && kind != GAPS) {
                return reader.blame(FAULT_PLACE);
            }
            out.test[at] = kind;
            reader.step();
            switch (kind) {
                case CAUGHT:
                    return reader.takeNumber(0, MOST_NUMBER);
                case ON:
                    return takeWho(reader, all, out, at);
                case GAPS:
                    return takeSign(reader, out, at) && reader.takeNumber(0, MOST_SPAN);
                default:
                    return true;
            }
        }

        private static boolean takeSign(Reader reader, Days out, int at) {
            int sign = reader.token();
            if (sign != LESS && sign != MORE && sign != EQUAL) {
                return reader.blame(FAULT_PLACE);
            }
            out.sign[at] = sign;
            reader.step();
            return true;
        }

        private static boolean takeWho(Reader reader, Classes all, Days out, int at) {
            if (reader.token() != NAME) {
                return reader.blame(FAULT_PLACE);
            }
            int k = all.find(reader.value());
            if (k == NONE) {
                return reader.blame(FAULT_NAME);
            }
            out.who[at] = k;
            reader.step();
            return true;
        }
    }

    /** Days as they are lived, and what came of them. */
    private static final class Life {
        private static final int MOST_DONE = 300;
        /** Ends are no steps; this stands far above how many of them 300 steps can come to. */
        private static final int MOST_ENTRIES_MET = 1000000;
        private static final int DRAW_SIDES = 16;

        private final int[] roundsLeft = new int[Days.MOST_ENTRIES];
        private boolean lived = false;
        private int done = 0;
        private int missed = 0;
        private int becameOn = 0;
        private int becameOff = 0;
        private int slides = 0;
        private boolean cutShort = false;
        private int seed = 0;

        void run(Classes all, Days days, int newSeed, Sieve sieve) {
            lived = true;
            done = 0;
            missed = 0;
            becameOn = 0;
            becameOff = 0;
            slides = 0;
            cutShort = false;
            seed = newSeed;
            int at = 0;
            for (int i = 0; i < MOST_ENTRIES_MET && at < days.count; i++) {
                at = follow(all, days, at, sieve);
            }
        }

        /** Does one entry and answers the next one. */
        private int follow(Classes all, Days days, int at, Sieve sieve) {
            int kind = days.kind[at];
            if (kind == END) {
                return behindEnd(days, at);
            }
            if (done >= MOST_DONE) {
                cutShort = true;
                return days.count;
            }
            done++;
            switch (kind) {
                case STOP:
                    return days.count;
                case WHEN:
                    return isSo(all, days, at, sieve) ? at + 1 : Math.max(at, days.partner[at]) + 1;
                case LOOP:
                    roundsLeft[at] = days.number[at];
                    return at + 1;
                case ANY:
                    missed += chance(all) ? 0 : 1;
                    return at + 1;
                case SPLIT:
                    missed += partIfItCan(all, days.who[at], days.number[at]) ? 0 : 1;
                    return at + 1;
                default:
                    missed += act(all, days, at) ? 0 : 1;
                    return at + 1;
            }
        }

        private int behindEnd(Days days, int at) {
            int opener = days.partner[at];
            if (opener < 0 || days.kind[opener] != LOOP) {
                return at + 1;
            }
            roundsLeft[opener]--;
            return roundsLeft[opener] > 0 ? opener + 1 : at + 1;
        }

        private static boolean isSo(Classes all, Days days, int at, Sieve sieve) {
            int number = days.number[at];
            switch (days.test[at]) {
                case CAUGHT:
                    return all.catchers(number) != 0;
                case ON:
                    return all.isOn(days.who[at]);
                case COVERED:
                    return sieve.fill(all, all.on) && sieve.countGaps() == 0;
                default:
                    return sieve.fill(all, all.on) && compares(sieve.countGaps(), days.sign[at], number);
            }
        }

        private static boolean compares(int many, int sign, int number) {
            if (sign == LESS) {
                return many < number;
            }
            return sign == MORE ? many > number : many == number;
        }

        /** An on, an off or a shift; like those of the other steps, false if it is missed. */
        private boolean act(Classes all, Days days, int at) {
            int who = days.who[at];
            switch (days.kind[at]) {
                case ON:
                    return all.isThere(who) && !all.isOn(who) && flip(all, who);
                case OFF:
                    return all.isOn(who) && flip(all, who);
                default:
                    return days.number[at] != 0 && slide(all, days.number[at]);
            }
        }

        private boolean flip(Classes all, int k) {
            all.flip(k);
            if (all.isOn(k)) {
                becameOn++;
            } else {
                becameOff++;
            }
            return true;
        }

        private boolean slide(Classes all, int n) {
            all.slide(n);
            slides++;
            return true;
        }

        private static boolean partIfItCan(Classes all, int k, int n) {
            if (!all.isThere(k) || all.partTrouble(k, n) != FINE) {
                return false;
            }
            all.part(k, n);
            return true;
        }

        private boolean chance(Classes all) {
            if (all.count == 0) {
                return false;
            }
            int k = draw(all.count);
            return draw(DRAW_SIDES) < all.odds ? flip(all, k) : slide(all, 1);
        }

        private int draw(int by) {
            seed = (seed * 3299 + 11531) % 65536;
            return leftBy(seed / 8, by);
        }
    }
}
