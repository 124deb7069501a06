import java.math.BigInteger;
import java.util.ArrayList;
import java.util.BitSet;
import java.util.List;
import java.util.Set;

/**
 * The document once more, as slowly and as plainly as can be, to be held against the class.
 * It shares no code with it: sets of numbers are counted out, texts are read by descent, days are a tree.
 */
final class PlainCover {
    static final int NONE = -1;
    private static final Set<String> KEPT = Set.of("odds", "class", "rest", "by", "off", "on", "shift", "split", "any",
            "when", "covered", "caught", "gaps", "loop", "end", "stop");

    private record Cls(String name, int rest, int by, boolean on) {
        Cls withRest(int r) {
            return new Cls(name, Math.floorMod(r, by), by, on);
        }

        Cls switched() {
            return new Cls(name, rest, by, !on);
        }

        boolean has(int n) {
            return n % by == rest;
        }
    }

    private record State(List<Cls> classes, int odds, List<Step> days) { }

    private record Token(String text, int place) { }

    private static final class Step {
        String word;
        String test = "";
        String sign = "";
        int who = NONE;
        int number;
        List<Step> inner = new ArrayList<>();
    }

    private static final class Fault extends Exception {
        private static final long serialVersionUID = 1;
        final int kind;
        final int place;

        Fault(int kind, int place) {
            this.kind = kind;
            this.place = place;
        }
    }

    private static final class Halt extends Exception {
        private static final long serialVersionUID = 1;
    }

    private List<Cls> classes = new ArrayList<>();
    private int odds = 4;
    private List<Step> days = null;
    private final List<State> marks = new ArrayList<>();
    private final long[][] trays = new long[4][];
    private final int[] sorts = new int[4];
    private final List<Integer> tape = new ArrayList<>();
    private int fault = NONE;
    private int faultPlace = NONE;
    private int status;
    private long top;
    private long bottom = 1;
    private int[] lived = null;

    int status() {
        return status;
    }

    long top() {
        return top;
    }

    long bottom() {
        return bottom;
    }

    private int no(int why) {
        status = why;
        return NONE;
    }

    private int yes(int v) {
        status = 0;
        return v;
    }

    private boolean fraction(BigInteger a, BigInteger b) {
        BigInteger g = a.gcd(b);
        top = a.divide(g).longValueExact();
        bottom = b.divide(g).longValueExact();
        status = 0;
        return true;
    }

    private boolean fraction(long a, long b) {
        return fraction(BigInteger.valueOf(a), BigInteger.valueOf(b));
    }

    // ---- trays

    boolean tray(int tray, int sort, int many) {
        if (tray < 0 || tray > 3 || sort < 0 || sort > 3 || many < 0 || many > 60) {
            return no(1) != NONE;
        }
        trays[tray] = new long[many];
        sorts[tray] = sort;
        return yes(1) == 1;
    }

    private int troubleAt(int tray, int place) {
        if (tray < 0 || tray > 3) {
            return 1;
        }
        if (trays[tray] == null) {
            return 2;
        }
        return place < 0 || place >= trays[tray].length ? 3 : 0;
    }

    private static long cut(int sort, long v) {
        int bits = 8 << sort;
        return v << (64 - bits) >> (64 - bits);
    }

    boolean write(int tray, int place, long v) {
        int t = troubleAt(tray, place);
        if (t != 0) {
            return no(t) != NONE;
        }
        trays[tray][place] = cut(sorts[tray], v);
        return yes(1) == 1;
    }

    long read(int tray, int place) {
        int t = troubleAt(tray, place);
        if (t != 0) {
            return no(t);
        }
        status = 0;
        return trays[tray][place];
    }

    boolean pour(int from, int place, int to, int at, int many) {
        if (from < 0 || from > 3 || to < 0 || to > 3 || place < 0 || at < 0 || many < 0) {
            return no(1) != NONE;
        }
        if (trays[from] == null || trays[to] == null) {
            return no(2) != NONE;
        }
        if (sorts[from] != sorts[to]) {
            return no(8) != NONE;
        }
        if (0L + place + many > trays[from].length || 0L + at + many > trays[to].length) {
            return no(3) != NONE;
        }
        long[] old = trays[from].clone();
        for (int i = 0; i < many; i++) {
            trays[to][at + i] = old[place + i];
        }
        return yes(1) == 1;
    }

    // ---- texts

    int feed(int... five) {
        if (tape.size() + 20 > 900) {
            return NONE;
        }
        for (int v : five) {
            for (int i = 3; i >= 0; i--) {
                tape.add(v >>> (8 * i) & 255);
            }
        }
        return tape.size();
    }

    private List<Token> tokens = List.of();
    private int next;
    private int length;

    private void cutTokens(int n) {
        StringBuilder text = new StringBuilder();
        for (int i = 0; i < n; i++) {
            text.append((char) (int) tape.get(i));
        }
        tape.clear();
        tokens = new ArrayList<>();
        java.util.regex.Matcher m = java.util.regex.Pattern
                .compile("(?s)([a-z]+|[0-9]+|[\\n ]+|.)").matcher(text);
        while (m.find()) {
            if (!m.group().isBlank() || !m.group().matches("[\\n ]+")) {
                tokens.add(new Token(m.group(), m.start()));
            }
        }
        next = 0;
        length = n;
    }

    private int place() {
        return next < tokens.size() ? tokens.get(next).place : length;
    }

    private String peek() throws Fault {
        if (next >= tokens.size()) {
            return "";
        }
        String t = tokens.get(next).text;
        if (!t.matches("[a-z]+|[0-9]{1,4}|[;<>=]")) {
            throw new Fault(1, place());
        }
        return t;
    }

    private void want(String what) throws Fault {
        if (!peek().equals(what)) {
            throw new Fault(2, place());
        }
        next++;
    }

    private int wantNumber(int low, int high) throws Fault {
        if (!peek().matches("[0-9]+")) {
            throw new Fault(2, place());
        }
        int v = Integer.parseInt(peek());
        if (v < low || v > high) {
            throw new Fault(4, place());
        }
        next++;
        return v;
    }

    private String seeName() throws Fault {
        String t = peek();
        if (!t.matches("[a-z]{1,8}") || KEPT.contains(t)) {
            throw new Fault(2, place());
        }
        return t;
    }

    private static int numberOf(List<Cls> in, String name) {
        for (int k = 0; k < in.size(); k++) {
            if (name.equals(in.get(k).name)) {
                return k;
            }
        }
        return NONE;
    }

    int system(int n) {
        if (n < 0 || n > tape.size()) {
            return no(1);
        }
        cutTokens(n);
        List<Cls> made = new ArrayList<>();
        int newOdds = NONE;
        try {
            while (!peek().isEmpty()) {
                if (peek().equals("odds")) {
                    if (newOdds != NONE) {
                        throw new Fault(5, place());
                    }
                    next++;
                    newOdds = wantNumber(0, 16);
                } else {
                    readClass(made);
                }
                want(";");
            }
        } catch (Fault f) {
            fault = f.kind;
            faultPlace = f.place;
            return no(9);
        }
        fault = 0;
        faultPlace = NONE;
        classes = made;
        odds = newOdds == NONE ? 4 : newOdds;
        days = null;
        return yes(made.size());
    }

    private void readClass(List<Cls> made) throws Fault {
        if (peek().equals("class") && made.size() == 12) {
            throw new Fault(6, place());
        }
        want("class");
        String name = seeName();
        if (numberOf(made, name) != NONE) {
            throw new Fault(3, place());
        }
        next++;
        want("rest");
        int r = wantNumber(0, 59);
        want("by");
        int m = wantNumber(1, 60);
        boolean on = !peek().equals("off");
        if (!on) {
            next++;
        }
        made.add(new Cls(name, r % m, m, on));
    }

    private int stepsRead;

    int days(int n) {
        if (n < 0 || n > tape.size() || n > 300) {
            return no(1);
        }
        cutTokens(n);
        stepsRead = 0;
        List<Step> made;
        try {
            made = readSteps(0);
            if (!peek().isEmpty()) {
                throw new Fault(2, place());
            }
        } catch (Fault f) {
            fault = f.kind;
            faultPlace = f.place;
            return no(9);
        }
        fault = 0;
        faultPlace = NONE;
        days = made;
        return yes(stepsRead);
    }

    private List<Step> readSteps(int depth) throws Fault {
        List<Step> made = new ArrayList<>();
        while (Set.of("on", "off", "shift", "split", "any", "when", "loop", "stop").contains(peek())) {
            made.add(readStep(depth));
        }
        return made;
    }

    private Step readStep(int depth) throws Fault {
        Step s = new Step();
        s.word = peek();
        boolean opens = s.word.equals("when") || s.word.equals("loop");
        if (stepsRead == 30) {
            throw new Fault(6, place());
        }
        if (opens && depth == 3) {
            throw new Fault(7, place());
        }
        stepsRead++;
        next++;
        if (Set.of("on", "off", "split").contains(s.word)) {
            s.who = wantWho();
        }
        if (s.word.equals("shift")) {
            s.number = wantNumber(0, 59);
        }
        if (s.word.equals("split")) {
            s.number = wantNumber(2, 7);
        }
        if (s.word.equals("loop")) {
            s.number = wantNumber(1, 99);
        }
        if (s.word.equals("when")) {
            readTest(s);
        }
        want(";");
        if (opens) {
            s.inner = readSteps(depth + 1);
            want("end");
            want(";");
        }
        return s;
    }

    private void readTest(Step s) throws Fault {
        s.test = peek();
        if (!Set.of("covered", "caught", "on", "gaps").contains(s.test)) {
            throw new Fault(2, place());
        }
        next++;
        if (s.test.equals("caught")) {
            s.number = wantNumber(0, 9999);
        }
        if (s.test.equals("on")) {
            s.who = wantWho();
        }
        if (s.test.equals("gaps")) {
            s.sign = peek();
            if (!s.sign.matches("[<>=]")) {
                throw new Fault(2, place());
            }
            next++;
            s.number = wantNumber(0, 5040);
        }
    }

    private int wantWho() throws Fault {
        int k = numberOf(classes, seeName());
        if (k == NONE) {
            throw new Fault(3, place());
        }
        next++;
        return k;
    }

    int fault(int what) {
        return what == 0 ? fault : what == 1 ? faultPlace : NONE;
    }

    // ---- what is caught

    private boolean there(int k) {
        return k >= 0 && k < classes.size();
    }

    private static int spanOf(List<Cls> in) {
        BigInteger span = BigInteger.ONE;
        for (Cls c : in) {
            if (c.on) {
                BigInteger m = BigInteger.valueOf(c.by);
                span = span.multiply(m).divide(span.gcd(m));
            }
        }
        return span.compareTo(BigInteger.valueOf(5040)) > 0 ? NONE : span.intValueExact();
    }

    private int span() {
        return spanOf(classes);
    }

    private static int setAt(List<Cls> in, int n) {
        int set = 0;
        for (int k = 0; k < in.size(); k++) {
            if (in.get(k).on && in.get(k).has(n)) {
                set |= 1 << k;
            }
        }
        return set;
    }

    private static List<Integer> gapsOf(List<Cls> in) {
        List<Integer> found = new ArrayList<>();
        int span = spanOf(in);
        for (int n = 0; n < span; n++) {
            if (setAt(in, n) == 0) {
                found.add(n);
            }
        }
        return found;
    }

    int told(int what) {
        if (what < 0 || what > 7) {
            return no(1);
        }
        if (what >= 3 && what <= 5 && span() == NONE) {
            return no(7);
        }
        int set = 0;
        int couples = 0;
        boolean unlike = true;
        for (int k = 0; k < classes.size(); k++) {
            Cls c = classes.get(k);
            set += c.on ? 1 << k : 0;
            unlike &= !c.on || c.by > 1;
            for (int j = 0; j < k; j++) {
                Cls d = classes.get(j);
                if (c.on && d.on) {
                    couples += both(c, d) == NONE ? 0 : 1;
                    unlike &= c.by != d.by;
                }
            }
        }
        int[] answers = {classes.size(), odds, set, span(), gapsOf(classes).size(), gapsOf(classes).isEmpty() ? 1 : 0,
            couples, unlike ? 1 : 0};
        return yes(answers[what]);
    }

    private static int both(Cls c, Cls d) {
        for (int n = 0; n < 3600; n++) {
            if (c.has(n) && d.has(n)) {
                return n;
            }
        }
        return NONE;
    }

    int classOf(int k, int what) {
        if (!there(k) || what < 0 || what > 2) {
            return no(1);
        }
        Cls c = classes.get(k);
        return yes(what == 0 ? c.rest : what == 1 ? c.by : c.on ? 1 : 0);
    }

    int caught(int n) {
        return n < 0 || n > 9999 ? no(1) : yes(setAt(classes, n));
    }

    int tightest(int n) {
        if (n < 0 || n > 9999) {
            return no(1);
        }
        for (int m = 1; m <= 60; m++) {
            for (int k = 0; k < classes.size(); k++) {
                if (classes.get(k).by == m && classes.get(k).on && classes.get(k).has(n)) {
                    return yes(k);
                }
            }
        }
        return no(6);
    }

    // ---- what is done

    int turn(int k) {
        if (!there(k)) {
            return no(1);
        }
        classes.set(k, classes.get(k).switched());
        return yes(classes.get(k).on ? 1 : 0);
    }

    int add(int rest, int modulus) {
        if (rest < 0 || rest > 59 || modulus < 1 || modulus > 60) {
            return no(1);
        }
        if (classes.size() == 12) {
            return no(4);
        }
        classes.add(new Cls(null, rest % modulus, modulus, true));
        return yes(classes.size() - 1);
    }

    int drop(int k) {
        if (!there(k)) {
            return no(1);
        }
        classes.remove(k);
        return yes(classes.size());
    }

    int move(int k, int rest) {
        if (!there(k) || rest < 0 || rest > 59) {
            return no(1);
        }
        Cls old = classes.get(k);
        classes.set(k, old.withRest(rest));
        return yes(old.rest);
    }

    private static List<Cls> shifted(List<Cls> in, int n) {
        List<Cls> made = new ArrayList<>();
        for (Cls c : in) {
            made.add(c.withRest(c.rest + n));
        }
        return made;
    }

    boolean shift(int n) {
        if (n < 0 || n > 59) {
            return no(1) != NONE;
        }
        classes = shifted(classes, n);
        return yes(1) == 1;
    }

    int spread(int n) {
        if (n < 2 || n > 60) {
            return no(1);
        }
        int most = 0;
        List<Cls> made = new ArrayList<>();
        for (Cls c : classes) {
            most = Math.max(most, c.by * n);
            made.add(new Cls(c.name, c.rest * n, c.by * n, c.on));
        }
        if (most > 60) {
            return no(7);
        }
        if (made.isEmpty()) {
            return no(6);
        }
        classes = made;
        return yes(most);
    }

    /** The parts of a class by n, the first of which takes its place. */
    private static List<Cls> partsOf(Cls c, int n) {
        List<Cls> made = new ArrayList<>();
        for (int i = 0; i < n; i++) {
            made.add(new Cls(i == 0 ? c.name : null, c.rest + i * c.by, c.by * n, c.on));
        }
        return made;
    }

    int split(int k, int n) {
        if (!there(k) || n < 2 || n > 7) {
            return no(1);
        }
        if (classes.size() + n - 1 > 12) {
            return no(4);
        }
        if (classes.get(k).by * n > 60) {
            return no(7);
        }
        List<Cls> parts = partsOf(classes.get(k), n);
        classes.set(k, parts.remove(0));
        classes.addAll(parts);
        return yes(classes.size());
    }

    int join(int k, int n) {
        if (!there(k) || n < 2 || n > 7) {
            return no(1);
        }
        Cls c = classes.get(k);
        if (c.by % n != 0) {
            return no(7);
        }
        Cls whole = new Cls(c.name, c.rest % (c.by / n), c.by / n, c.on);
        List<Integer> gone = new ArrayList<>();
        for (Cls part : partsOf(whole, n)) {
            if (part.rest == c.rest) {
                continue;
            }
            int found = NONE;
            for (int i = classes.size() - 1; i >= 0; i--) {
                Cls d = classes.get(i);
                found = d.rest == part.rest && d.by == part.by && d.on == part.on ? i : found;
            }
            if (found == NONE) {
                return no(6);
            }
            gone.add(found);
        }
        classes.set(k, whole);
        List<Cls> left = new ArrayList<>();
        for (int i = 0; i < classes.size(); i++) {
            if (!gone.contains(i)) {
                left.add(classes.get(i));
            }
        }
        classes = left;
        return yes(classes.size());
    }

    boolean rule(int newOdds) {
        if (newOdds < 0 || newOdds > 16) {
            return no(1) != NONE;
        }
        odds = newOdds;
        return yes(1) == 1;
    }

    // ---- questions

    int gapAt(int k) {
        if (span() == NONE) {
            return no(7);
        }
        List<Integer> found = gapsOf(classes);
        return k < 0 || k >= found.size() ? no(6) : yes(found.get(k));
    }

    boolean gaps() {
        return span() == NONE ? no(7) != NONE : fraction(gapsOf(classes).size(), span());
    }

    boolean weight() {
        if (span() == NONE) {
            return no(7) != NONE;
        }
        BigInteger a = BigInteger.ZERO;
        BigInteger b = BigInteger.ONE;
        for (Cls c : classes) {
            if (c.on) {
                BigInteger m = BigInteger.valueOf(c.by);
                a = a.multiply(m).add(b);
                b = b.multiply(m);
            }
        }
        return fraction(a, b);
    }

    private int countJust(int set) {
        int many = 0;
        int span = span();
        for (int n = 0; n < span; n++) {
            many += setAt(classes, n) == set ? 1 : 0;
        }
        return many;
    }

    boolean alone(int k) {
        if (!there(k)) {
            return no(1) != NONE;
        }
        if (span() == NONE) {
            return no(7) != NONE;
        }
        return classes.get(k).on ? fraction(countJust(1 << k), span()) : no(6) != NONE;
    }

    int needless() {
        if (span() == NONE) {
            return no(7);
        }
        int set = 0;
        for (int k = 0; k < classes.size(); k++) {
            if (classes.get(k).on && countJust(1 << k) == 0) {
                set |= 1 << k;
            }
        }
        return yes(set);
    }

    private int fewestNow() {
        int n = classes.size();
        BitSet[] by = new BitSet[n];
        BitSet all = new BitSet();
        int span = span();
        for (int k = 0; k < n; k++) {
            by[k] = new BitSet();
            for (int v = 0; v < span && classes.get(k).on; v++) {
                by[k].set(v, classes.get(k).has(v));
            }
            all.or(by[k]);
        }
        for (int many = 0; many <= n; many++) {
            for (int set = 0; set < 1 << n; set++) {
                if (Integer.bitCount(set) == many && catchesAll(set, by, all)) {
                    return set;
                }
            }
        }
        throw new IllegalStateException();
    }

    private boolean catchesAll(int set, BitSet[] by, BitSet all) {
        BitSet some = new BitSet();
        for (int k = 0; k < by.length; k++) {
            if ((set >> k & 1) == 1) {
                if (!classes.get(k).on) {
                    return false;
                }
                some.or(by[k]);
            }
        }
        return some.equals(all);
    }

    int fewest() {
        return span() == NONE ? no(7) : yes(Integer.bitCount(fewestNow()));
    }

    int fewestSet() {
        return span() == NONE ? no(7) : yes(fewestNow());
    }

    int meet(int k, int other) {
        if (!there(k) || !there(other) || k == other) {
            return no(1);
        }
        int n = both(classes.get(k), classes.get(other));
        return n == NONE ? no(6) : yes(n);
    }

    int thick() {
        if (span() == NONE) {
            return no(7);
        }
        int most = 0;
        int span = span();
        for (int n = 0; n < span; n++) {
            most = Math.max(most, Integer.bitCount(setAt(classes, n)));
        }
        return yes(most);
    }

    int ask() {
        if (span() == NONE) {
            return no(7);
        }
        int most = thick();
        if (most == 0) {
            return no(6);
        }
        for (int n = 0; n < span(); n++) {
            if (Integer.bitCount(setAt(classes, n)) == most) {
                return yes(n);
            }
        }
        throw new IllegalStateException();
    }

    int turnsBy() {
        if (span() == NONE) {
            return no(7);
        }
        List<Integer> now = gapsOf(classes);
        for (int n = 1;; n++) {
            if (gapsOf(shifted(classes, n)).equals(now)) {
                return yes(n);
            }
        }
    }

    // ---- the tree

    private final List<int[]> nodes = new ArrayList<>();

    /** Each node as what is left, by what, and 0 caught, 1 free, 2 parted. */
    private void grow(int a, int m, int span) {
        int sort = 1;
        int common = -1;
        for (int n = a; n < span; n += m) {
            int set = setAt(classes, n);
            sort = set != 0 ? 2 : sort;
            common &= set;
        }
        sort = common != 0 ? 0 : sort;
        nodes.add(new int[] {a, m, sort});
        if (sort == 2) {
            int p = 2;
            while (span / m % p != 0) {
                p++;
            }
            for (int i = 0; i < p; i++) {
                grow(a + i * m, m * p, span);
            }
        }
    }

    int tree(int what) {
        if (what < 0 || what > 3) {
            return no(1);
        }
        if (span() == NONE) {
            return no(7);
        }
        nodes.clear();
        grow(0, 1, span());
        int[] answers = {0, 0, nodes.size(), 0};
        for (int[] node : nodes) {
            answers[3] = Math.max(answers[3], node[1]);
            if (node[2] < 2) {
                answers[node[2]]++;
            }
        }
        return yes(answers[what]);
    }

    int leafOf(int n) {
        if (n < 0 || n > 9999) {
            return no(1);
        }
        if (span() == NONE) {
            return no(7);
        }
        nodes.clear();
        grow(0, 1, span());
        for (int[] node : nodes) {
            if (node[2] < 2 && n % node[1] == node[0]) {
                return yes(node[1]);
            }
        }
        throw new IllegalStateException();
    }

    // ---- choices

    private final List<int[]> ways = new ArrayList<>();

    private int choiceTrouble(int tray, int n, int sort) {
        if (tray < 0 || tray > 3 || n < 0 || n > 6 || sort < 0 || sort > 2) {
            return 1;
        }
        if (trays[tray] == null) {
            return 2;
        }
        if (trays[tray].length < n) {
            return 3;
        }
        long product = 1;
        for (int i = 0; i < n; i++) {
            long v = trays[tray][i];
            if (v < 1 || v > 60) {
                return 5;
            }
            product *= v;
        }
        return product > 5040 ? 7 : 0;
    }

    private void tryAll(int tray, int[] rests, int place, int sort) {
        if (place < rests.length) {
            for (int r = 0; r < trays[tray][place]; r++) {
                rests[place] = r;
                tryAll(tray, rests, place + 1, sort);
            }
            return;
        }
        int product = 1;
        for (int i = 0; i < rests.length; i++) {
            product *= (int) trays[tray][i];
        }
        for (int n = 0; n < product; n++) {
            int times = 0;
            for (int i = 0; i < rests.length; i++) {
                times += n % trays[tray][i] == rests[i] ? 1 : 0;
            }
            if (sort == 0 && times < 1 || sort == 1 && times != 1 || sort == 2 && times > 1) {
                return;
            }
        }
        ways.add(rests.clone());
    }

    int choices(int tray, int n, int sort) {
        int t = choiceTrouble(tray, n, sort);
        if (t != 0) {
            return no(t);
        }
        ways.clear();
        tryAll(tray, new int[n], 0, sort);
        return yes(ways.size());
    }

    int choiceAt(int tray, int n, int sort, int k) {
        int t = choiceTrouble(tray, n, sort);
        if (t == 1 || k < 0 || k >= n) {
            return no(1);
        }
        if (t != 0) {
            return no(t);
        }
        ways.clear();
        tryAll(tray, new int[n], 0, sort);
        return ways.isEmpty() ? no(6) : yes(ways.get(0)[k]);
    }

    // ---- games, odds

    private static int play(List<Cls> in, int turns, boolean many) {
        if (turns == 0) {
            return gapsOf(in).size() * 5040 / spanOf(in);
        }
        int best = play(in, turns - 1, !many);
        for (int k = 0; k < in.size(); k++) {
            List<Cls> then = new ArrayList<>(in);
            then.set(k, in.get(k).switched());
            if (spanOf(then) != NONE) {
                int v = play(then, turns - 1, !many);
                best = many ? Math.max(best, v) : Math.min(best, v);
            }
        }
        return best;
    }

    int game(int n) {
        if (n < 0 || n > 2) {
            return no(1);
        }
        return span() == NONE ? no(7) : yes(play(classes, n, true));
    }

    int moveOf(int n) {
        if (n < 1 || n > 2) {
            return no(1);
        }
        if (span() == NONE) {
            return no(7);
        }
        int best = play(classes, n, true);
        for (int k = 0; k < classes.size(); k++) {
            List<Cls> then = new ArrayList<>(classes);
            then.set(k, classes.get(k).switched());
            if (spanOf(then) != NONE && play(then, n - 1, false) == best) {
                return yes(k);
            }
        }
        return no(6);
    }

    boolean uncaught(int n, int k) {
        if (n < 0 || n > 5 || k < 0 || k > 5) {
            return no(1) != NONE;
        }
        if (span() == NONE) {
            return no(7) != NONE;
        }
        BigInteger open = BigInteger.valueOf(gapsOf(classes).size());
        BigInteger closed = BigInteger.valueOf(span()).subtract(open);
        BigInteger sum = BigInteger.ZERO;
        for (int set = 0; set < 1 << n; set++) {
            int j = Integer.bitCount(set);
            if (j >= k) {
                sum = sum.add(open.pow(j).multiply(closed.pow(n - j)));
            }
        }
        return fraction(sum, BigInteger.valueOf(span()).pow(n));
    }

    int copySystem(int tray) {
        if (tray < 0 || tray > 3) {
            return no(1);
        }
        if (trays[tray] == null) {
            return no(2);
        }
        if (trays[tray].length < 2 * classes.size()) {
            return no(3);
        }
        int at = 0;
        for (Cls c : classes) {
            trays[tray][at++] = c.rest;
            trays[tray][at++] = c.by;
        }
        return yes(classes.size());
    }

    // ---- days

    private int drawn;
    private int done;
    private int[] counts;

    private int draw(int n) {
        drawn = (drawn * 3299 + 11531) % 65536;
        return drawn / 8 % n;
    }

    private void runDays(int seed) {
        drawn = seed;
        done = 0;
        counts = new int[5];
        try {
            runSteps(days);
        } catch (Halt h) {
            return;
        }
    }

    private void runSteps(List<Step> steps) throws Halt {
        for (Step s : steps) {
            if (done == 300) {
                counts[4] = 1;
                throw new Halt();
            }
            done++;
            runStep(s);
        }
    }

    private void runStep(Step s) throws Halt {
        boolean isOn = there(s.who) && classes.get(s.who).on;
        switch (s.word) {
            case "stop" -> throw new Halt();
            case "loop" -> {
                for (int i = 0; i < s.number; i++) {
                    runSteps(s.inner);
                }
            }
            case "when" -> {
                if (holds(s, isOn)) {
                    runSteps(s.inner);
                }
            }
            case "on", "off" -> {
                if (!there(s.who) || isOn == s.word.equals("on")) {
                    counts[0]++;
                } else {
                    switchOne(s.who);
                }
            }
            case "shift" -> {
                classes = shifted(classes, s.number);
                counts[s.number == 0 ? 0 : 3]++;
            }
            case "split" -> {
                if (split(s.who, s.number) == NONE) {
                    counts[0]++;
                }
            }
            default -> runAny();
        }
    }

    private void switchOne(int k) {
        counts[classes.get(k).on ? 2 : 1]++;
        classes.set(k, classes.get(k).switched());
    }

    private void runAny() {
        if (classes.isEmpty()) {
            counts[0]++;
            return;
        }
        int k = draw(classes.size());
        if (draw(16) < odds) {
            switchOne(k);
        } else {
            classes = shifted(classes, 1);
            counts[3]++;
        }
    }

    private boolean holds(Step s, boolean isOn) {
        if (s.test.equals("caught")) {
            return setAt(classes, s.number) != 0;
        }
        if (s.test.equals("on")) {
            return isOn;
        }
        if (span() == NONE) {
            return false;
        }
        int open = gapsOf(classes).size();
        if (s.test.equals("covered")) {
            return open == 0;
        }
        return s.sign.equals("<") ? open < s.number : s.sign.equals(">") ? open > s.number : open == s.number;
    }

    int live(int seed) {
        if (seed < 0 || seed > 9999) {
            return no(1);
        }
        if (days == null) {
            return no(6);
        }
        runDays(seed);
        lived = counts;
        return yes(done);
    }

    int lived(int what) {
        if (what < 0 || what > 4) {
            return no(1);
        }
        return lived == null ? no(6) : yes(lived[what]);
    }

    boolean mean(int seed, int many) {
        if (seed < 0 || seed > 9999 || many < 1 || many > 20 || seed + many - 1 > 9999) {
            return no(1) != NONE;
        }
        if (days == null) {
            return no(6) != NONE;
        }
        List<Cls> kept = new ArrayList<>(classes);
        long sum = 0;
        for (int i = 0; i < many; i++) {
            runDays(seed + i);
            sum += classes.stream().filter(c -> c.on).count();
            classes = new ArrayList<>(kept);
        }
        return fraction(sum, many);
    }

    int mark() {
        if (marks.size() == 3) {
            return no(4);
        }
        marks.add(new State(List.copyOf(classes), odds, days));
        return yes(marks.size());
    }

    int undo() {
        if (marks.isEmpty()) {
            return no(6);
        }
        State s = marks.remove(marks.size() - 1);
        classes = new ArrayList<>(s.classes);
        odds = s.odds;
        days = s.days;
        return yes(marks.size());
    }
}
