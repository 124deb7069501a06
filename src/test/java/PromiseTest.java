/** What the document promises, one by one: ordinary calls, the edges that it names, wrong inputs. */
public final class PromiseTest {
    private static final String FIVE =
            "odds 8; class a rest 0 by 2; class b rest 0 by 3; class c rest 1 by 4; class d rest 5 by 6; class e rest 7 by 12;";

    private static int wrong;
    private static int promise;
    private static ResidueCover x;

    public static void main(String[] args) {
        trays();
        tape();
        systems();
        daysTexts();
        questions();
        changes();
        splitsAndJoins();
        spans();
        fewestSets();
        trees();
        choices();
        games();
        chances();
        copies();
        lives();
        means();
        marks();
        wideSpans();
        fullHouse();
        System.out.println(wrong == 0 ? "all promises hold" : wrong + " answers are not as due");
        System.exit(wrong == 0 ? 0 : 1);
    }

    private static void of(int number) {
        promise = number;
        x = new ResidueCover();
    }

    private static void due(String call, long got, long want) {
        if (got != want) {
            wrong++;
            System.out.println("promise " + promise + ": " + call + " answered " + got + ", due is " + want);
        }
    }

    /** The call is refused with this status. */
    private static void refused(String call, long got, int status) {
        due(call, got, -1);
        due("status behind " + call, x.status(), status);
    }

    private static void refused(String call, boolean got, int status) {
        due(call, got ? 1 : 0, 0);
        due("status behind " + call, x.status(), status);
    }

    private static void good(String call, boolean got) {
        due(call, got ? 1 : 0, 1);
        due("status behind " + call, x.status(), 0);
    }

    private static void good(String call, long got, long want) {
        due(call, got, want);
        due("status behind " + call, x.status(), 0);
    }

    private static void fraction(String call, boolean got, long top, long bottom) {
        good(call, got);
        due("top behind " + call, x.top(), top);
        due("bottom behind " + call, x.bottom(), bottom);
    }

    private static void feed(String text) {
        for (int i = 0; i < text.length(); i += 20) {
            int[] five = new int[5];
            for (int j = 0; j < 20; j++) {
                int b = i + j < text.length() ? text.charAt(i + j) : 0;
                five[j / 4] |= b << (8 * (3 - j % 4));
            }
            x.feed(five[0], five[1], five[2], five[3], five[4]);
        }
    }

    private static int system(String text) {
        feed(text);
        return x.system(text.length());
    }

    private static int days(String text) {
        feed(text);
        return x.days(text.length());
    }

    private static void systemFault(String text, int kind, int place) {
        refused("system " + text, system(text), 9);
        due("fault kind of " + text, x.fault(0), kind);
        due("fault place of " + text, x.fault(1), place);
    }

    private static void daysFault(String text, int kind, int place) {
        refused("days " + text, days(text), 9);
        due("fault kind of " + text, x.fault(0), kind);
        due("fault place of " + text, x.fault(1), place);
    }

    private static String repeat(String what, int times) {
        return what.repeat(times);
    }

    // ---- 1 to 8

    private static void trays() {
        of(1);
        due("status", x.status(), 0);
        due("top", x.top(), 0);
        due("bottom", x.bottom(), 1);
        good("told 0", x.told(0), 0);
        good("told 1", x.told(1), 4);
        refused("live", x.live(0), 6);
        refused("undo", x.undo(), 6);
        refused("read", x.read(0, 0), 2);
        refused("system beyond the tape", x.system(1), 1);
        of(2);
        refused("turn", x.turn(0), 1);
        x.feed(1, 2, 3, 4, 5);
        x.fault(0);
        x.top();
        x.bottom();
        due("status stays", x.status(), 1);
        x.told(0);
        due("status is new", x.status(), 0);
        of(3);
        x.add(0, 4);
        fraction("weight", x.weight(), 1, 4);
        refused("alone", x.alone(7), 1);
        due("top stays", x.top(), 1);
        of(4);
        x.add(0, 6);
        fraction("gaps", x.gaps(), 5, 6);
        refused("mean", x.mean(0, 1), 6);
        due("bottom stays", x.bottom(), 6);
        of(5);
        good("tray", x.tray(3, 3, 60));
        good("read last", x.read(3, 59), 0);
        refused("read behind", x.read(3, 60), 3);
        good("write", x.write(3, 0, 9));
        good("tray anew", x.tray(3, 0, 2));
        good("read 0", x.read(3, 0), 0);
        refused("no tray 4", x.tray(4, 0, 1), 1);
        refused("no tray -1", x.tray(-1, 0, 1), 1);
        refused("no sort 4", x.tray(0, 4, 1), 1);
        refused("no sort -1", x.tray(0, -1, 1), 1);
        refused("61", x.tray(0, 0, 61), 1);
        refused("-1", x.tray(0, 0, -1), 1);
        refused("still missing", x.read(0, 0), 2);
        good("empty", x.tray(0, 0, 0));
        refused("no place", x.read(0, 0), 3);
        of(6);
        long[] cut = {-128, -32768 + 128, Integer.MIN_VALUE + 32896, Long.MIN_VALUE + 2147516544L};
        long whole = Long.MIN_VALUE + 2147516544L;
        for (int sort = 0; sort < 4; sort++) {
            x.tray(sort, sort, 1);
            good("write", x.write(sort, 0, whole));
            good("read cut to sort " + sort, x.read(sort, 0), cut[sort]);
        }
        refused("no tray", x.write(4, 0, 1), 1);
        refused("no place -1", x.write(0, -1, 1), 3);
        refused("no place 1", x.write(0, 1, 1), 3);
        of(7);
        refused("no tray", x.read(-1, 0), 1);
        refused("missing", x.read(2, 99), 2);
        x.tray(2, 2, 3);
        x.write(2, 2, -1);
        good("-1", x.read(2, 2), -1);
        refused("no place", x.read(2, 3), 3);
        pours();
    }

    private static void pours() {
        of(8);
        x.tray(0, 1, 5);
        x.tray(1, 1, 3);
        x.tray(2, 2, 5);
        for (int i = 0; i < 5; i++) {
            x.write(0, i, i + 1);
        }
        good("onto itself, forward", x.pour(0, 0, 0, 1, 4));
        long[] forward = {1, 1, 2, 3, 4};
        for (int i = 0; i < 5; i++) {
            good("read " + i, x.read(0, i), forward[i]);
        }
        good("to another", x.pour(0, 2, 1, 0, 3));
        good("read", x.read(1, 2), 4);
        good("none, behind all", x.pour(0, 5, 1, 3, 0));
        refused("-1 place", x.pour(0, -1, 1, 0, 1), 1);
        refused("-1 at", x.pour(0, 0, 1, -1, 1), 1);
        refused("-1 many, missing", x.pour(0, 0, 3, 0, -1), 1);
        refused("no tray", x.pour(0, 0, 4, 0, 1), 1);
        refused("missing, ahead of places", x.pour(0, 9, 3, 0, 1), 2);
        refused("unlike, ahead of places", x.pour(0, 9, 2, 0, 1), 8);
        refused("too few ahead", x.pour(0, 4, 1, 0, 2), 3);
        refused("too few behind", x.pour(0, 0, 1, 2, 2), 3);
        refused("far too many", x.pour(0, 1, 1, 1, Integer.MAX_VALUE), 3);
        good("unchanged", x.read(1, 2), 4);
    }

    // ---- 9 to 12

    private static void tape() {
        of(9);
        for (int i = 1; i <= 45; i++) {
            due("feed", x.feed(0, 0, 0, 0, 0), 20 * i);
        }
        due("full", x.feed(0, 0, 0, 0, 0), -1);
        refused("nothing of it is there", x.system(901), 1);
        refused("bytes that begin no token", x.system(900), 9);
        due("an empty tape", x.feed(0x6f646473, 0x20333b00, 0, 0, 0), 20);
        good("the highest byte first", x.system(7), 0);
        good("odds", x.told(1), 3);
        of(10);
        x.feed(0, 0, 0, 0, 0);
        refused("-1", x.system(-1), 1);
        refused("21", x.system(21), 1);
        good("the tape stays till now", x.system(0), 0);
        refused("then it is empty", x.system(1), 1);
    }

    private static void systems() {
        of(10);
        good("five", system(FIVE), 5);
        good("odds", x.told(1), 8);
        good("tight", system("class a rest 59by 7off;odds0016;class b rest 1 by 1;"), 2);
        good("rest is what is left", x.classOf(0, 0), 3);
        good("off", x.classOf(0, 2), 0);
        good("on", x.classOf(1, 2), 1);
        good("odds", x.told(1), 16);
        good("blanks of both sorts", system("\n class\nabcdefgh rest 0 by 60 ;  "), 1);
        good("odds without", x.told(1), 4);
        daysOfText("on abcdefgh;", 1);
        good("a new system", system("class b rest 0 by 2;"), 1);
        refused("has no days", x.live(0), 6);
        of(12);
        due("ahead of any", x.fault(0), -1);
        due("ahead of any", x.fault(1), -1);
        system("odds 3;");
        systemFault("class a rest 1 by 2; class a", 3, 27);
        good("the old one stays", x.told(1), 3);
        refused("a refusal of another kind", x.system(5), 1);
        due("changes no fault", x.fault(0), 3);
        due("what 2", x.fault(2), -1);
        due("what -1", x.fault(-1), -1);
        good("no fault", system(""), 0);
        due("no fault", x.fault(0), 0);
        due("no place", x.fault(1), -1);
        systemFaults();
    }

    private static void daysOfText(String text, int steps) {
        good("days " + text, days(text), steps);
    }

    private static void systemFaults() {
        systemFault("odds 4\t;", 1, 6);
        systemFault("odds 00004;", 1, 5);
        systemFault("odds 4; Class", 1, 8);
        systemFault("odds 4;\u00e9", 1, 7);
        systemFault("odds", 2, 4);
        systemFault("odds   ", 2, 7);
        systemFault("odds ;", 2, 5);
        systemFault("odds 4 odds", 2, 7);
        systemFault("odds 4 5;", 2, 7);
        systemFault(";", 2, 0);
        systemFault("on a;", 2, 0);
        systemFault("class 1", 2, 6);
        systemFault("class odds", 2, 6);
        systemFault("class stop", 2, 6);
        systemFault("class gaps", 2, 6);
        systemFault("class abcdefghi rest", 2, 6);
        systemFault("class a rest x", 2, 13);
        systemFault("class a rest 1 of", 2, 15);
        systemFault("class a rest 1 by 2 on;", 2, 20);
        systemFault("class a rest 1 by 2 off off", 2, 24);
        systemFault("class a rest 1 by 2 < ;", 2, 20);
        systemFault("class a rest 60 by", 4, 13);
        systemFault("class a rest 1 by 0;", 4, 18);
        systemFault("class a rest 1 by 61;", 4, 18);
        systemFault("odds 17;", 4, 5);
        systemFault("odds 1; odds 17;", 5, 8);
        StringBuilder twelve = new StringBuilder();
        for (char c = 'a'; c <= 'l'; c++) {
            twelve.append("class ").append(c).append(" rest 0 by 1;");
        }
        good("twelve", system(twelve.toString()), 12);
        systemFault(twelve + "class a", 6, twelve.length());
        systemFault(twelve + "klass a", 2, twelve.length());
        good("twelve and odds", system(twelve + "odds 0;"), 12);
    }

    private static void daysTexts() {
        of(11);
        good("system", system(FIVE), 5);
        daysOfText("", 0);
        daysOfText("on a;off b;shift 0;shift 59;split c 7;any;stop;", 7);
        daysOfText("when covered;end;when caught 9999;end;when on e;end;when gaps<0;end;when gaps > 5040;end;"
                + "when gaps=1;end;loop 99;end;", 7);
        daysOfText("loop 1;when covered;loop 2;any;end;end;end;", 4);
        daysOfText(repeat("any;", 30), 30);
        refused("-1", x.days(-1), 1);
        refused("beyond the tape", x.days(1), 1);
        feed(repeat(" ", 320));
        refused("above 300", x.days(301), 1);
        good("300", x.days(300), 0);
        of(12);
        system(FIVE);
        daysOfText("off a;", 1);
        daysFaults();
        good("the old ones stay", x.live(0), 1);
        good("a is off", x.classOf(0, 2), 0);
        manyEnds();
        names();
    }

    private static void manyEnds() {
        of(11);
        daysOfText(repeat("loop 1;end;", 27), 27);
        good("each end has its own beginning", x.live(0), 27);
        daysOfText(repeat("when caught 1;end;", 15) + repeat("loop 2;any;end;", 2), 19);
        good("with what is within", x.live(0), 15 + 2 + 4);
        good("missed", x.lived(0), 4);
    }

    private static void names() {
        of(10);
        good("names of the same letters", system("class ab rest 0 by 2; class ba rest 0 by 3; class a rest 0 by 4; "
                + "class aa rest 0 by 5; class aaaaaaaa rest 0 by 6; class baaaaaaa rest 0 by 7; class zzzzzzzz rest 0 by 8;"), 7);
        daysOfText("off ba; off aaaaaaaa; off zzzzzzzz;", 3);
        good("live", x.live(0), 3);
        good("those three", x.told(2), 127 - 2 - 16 - 64);
        system("class onn rest 0 by 2; class o rest 0 by 3; class odd rest 0 by 4; class restby rest 0 by 5;");
        daysOfText("off onn;off o;off odd;off restby;", 4);
    }

    private static void daysFaults() {
        daysFault("any;!", 1, 4);
        daysFault("shift 12345;", 1, 6);
        daysFault("end;", 2, 0);
        daysFault("any;end;", 2, 4);
        daysFault("loop 2;any;", 2, 11);
        daysFault("loop 2;any;end", 2, 14);
        daysFault("odds 4;", 2, 0);
        daysFault("a;", 2, 0);
        daysFault("on any;", 2, 3);
        daysFault("on abcdefghi;", 2, 3);
        daysFault("when any;", 2, 5);
        daysFault("when off a;", 2, 5);
        daysFault("when gaps;", 2, 9);
        daysFault("when gaps << 1;", 2, 11);
        daysFault("when covered end", 2, 13);
        daysFault("on z;", 3, 3);
        daysFault("when on z;", 3, 8);
        daysFault("split z 9;", 3, 6);
        daysFault("shift 60;", 4, 6);
        daysFault("split a 1;", 4, 8);
        daysFault("split a 8;", 4, 8);
        daysFault("loop 0;", 4, 5);
        daysFault("loop 100;", 4, 5);
        daysFault("when gaps > 5041;", 4, 12);
        daysFault(repeat("any;", 30) + "any;", 6, 120);
        daysFault(repeat("any;", 30) + "end;", 2, 120);
        daysFault("loop 1;loop 1;loop 1;loop 1;", 7, 21);
        daysFault("loop 1;when covered;loop 1;when covered;", 7, 27);
        daysFault("loop 1;loop 1;loop 1;" + repeat("any;", 27) + "loop 1;", 6, 129);
        daysFault("loop 1;loop 1;loop 1;end;loop 1;loop 1;", 7, 32);
    }

    // ---- 13 to 16

    private static void questions() {
        of(13);
        system(FIVE);
        long[] five = {5, 8, 31, 12, 0, 1, 3, 1};
        for (int what = 0; what < 8; what++) {
            good("told " + what, x.told(what), five[what]);
        }
        x.turn(0);
        long[] four = {5, 8, 30, 12, 4, 0, 2, 1};
        for (int what = 0; what < 8; what++) {
            good("told without the first " + what, x.told(what), four[what]);
        }
        x.add(3, 4);
        good("two like moduli", x.told(7), 0);
        refused("told 8", x.told(8), 1);
        refused("told -1", x.told(-1), 1);
        x = new ResidueCover();
        x.add(5, 1);
        good("a modulus of 1", x.told(7), 0);
        good("all is covered", x.told(5), 1);
        of(14);
        system(FIVE);
        good("rest", x.classOf(4, 0), 7);
        good("modulus", x.classOf(4, 1), 12);
        good("on", x.classOf(4, 2), 1);
        refused("no class", x.classOf(5, 0), 1);
        refused("no class", x.classOf(-1, 0), 1);
        refused("what 3", x.classOf(0, 3), 1);
        refused("what -1", x.classOf(0, -1), 1);
        of(15);
        system(FIVE);
        good("0", x.caught(0), 3);
        good("9999", x.caught(9999), 2);
        x.turn(1);
        good("off", x.caught(9999), 0);
        refused("-1", x.caught(-1), 1);
        refused("10000", x.caught(10000), 1);
        of(16);
        system("class a rest 0 by 6; class b rest 0 by 3; class c rest 3 by 3; class d rest 0 by 2 off;");
        good("the first of the least", x.tightest(6), 1);
        good("9999", x.tightest(9999), 1);
        refused("none", x.tightest(2), 6);
        refused("-1", x.tightest(-1), 1);
        refused("10000", x.tightest(10000), 1);
    }

    // ---- 17 to 22, 25

    private static void changes() {
        of(17);
        system(FIVE);
        good("off", x.turn(4), 0);
        good("on", x.turn(4), 1);
        refused("no class", x.turn(5), 1);
        refused("no class", x.turn(-1), 1);
        of(18);
        good("first", x.add(59, 60), 0);
        good("second", x.add(59, 7), 1);
        good("what is left", x.classOf(1, 0), 3);
        good("on", x.classOf(1, 2), 1);
        refused("rest 60", x.add(60, 60), 1);
        refused("rest -1", x.add(-1, 60), 1);
        refused("modulus 0", x.add(0, 0), 1);
        refused("modulus 61", x.add(0, 61), 1);
        for (int k = 2; k < 12; k++) {
            good("more", x.add(0, 2), k);
        }
        refused("a 13th", x.add(0, 2), 4);
        refused("a bad 13th", x.add(0, 0), 1);
        good("still 12", x.told(0), 12);
        of(19);
        system("class a rest 0 by 2; class b rest 1 by 3 off; class c rest 2 by 4;");
        good("drop", x.drop(0), 2);
        good("those behind", x.classOf(0, 1), 3);
        good("off still", x.told(2), 2);
        daysOfText("off c;", 1);
        daysFault("on a;", 3, 3);
        good("live", x.live(0), 1);
        good("the name went along", x.told(2), 0);
        refused("no class", x.drop(2), 1);
        refused("no class", x.drop(-1), 1);
        of(20);
        system(FIVE);
        good("move", x.move(4, 59), 7);
        good("what is left", x.classOf(4, 0), 11);
        refused("no class", x.move(5, 0), 1);
        refused("60", x.move(0, 60), 1);
        refused("-1", x.move(0, -1), 1);
        of(21);
        system("class a rest 1 by 2; class b rest 2 by 5 off;");
        good("shift", x.shift(59));
        good("a", x.classOf(0, 0), 0);
        good("b, off, too", x.classOf(1, 0), 1);
        good("by 0", x.shift(0));
        good("b", x.classOf(1, 0), 1);
        refused("60", x.shift(60), 1);
        refused("-1", x.shift(-1), 1);
        of(22);
        refused("no classes", x.spread(60), 6);
        system("class a rest 1 by 2; class b rest 2 by 5 off;");
        good("spread", x.spread(12), 60);
        good("rest", x.classOf(0, 0), 12);
        good("modulus", x.classOf(0, 1), 24);
        good("rest", x.classOf(1, 0), 24);
        refused("above 60, by one that is off", x.spread(2), 7);
        refused("1", x.spread(1), 1);
        refused("61", x.spread(61), 1);
        refused("1 without classes, too", new ResidueCover().spread(1), 1);
        of(25);
        good("16", x.rule(16));
        good("told", x.told(1), 16);
        good("0", x.rule(0));
        refused("17", x.rule(17), 1);
        refused("-1", x.rule(-1), 1);
        good("told", x.told(1), 0);
    }

    // ---- 23, 24

    private static void splitsAndJoins() {
        of(23);
        system("class a rest 1 by 2 off; class b rest 0 by 9;");
        good("split", x.split(0, 3), 4);
        long[][] parts = {{1, 6, 0}, {0, 9, 1}, {3, 6, 0}, {5, 6, 0}};
        for (int k = 0; k < 4; k++) {
            for (int what = 0; what < 3; what++) {
                good("part " + k, x.classOf(k, what), parts[k][what]);
            }
        }
        daysOfText("on a;", 1);
        refused("no class", x.split(4, 2), 1);
        refused("by 1", x.split(0, 1), 1);
        refused("by 8", x.split(0, 8), 1);
        refused("above 60", x.split(1, 7), 7);
        good("to 60 just", x.split(0, 7), 10);
        refused("a 13th, ahead of above 60", x.split(1, 7), 4);
        good("12", x.split(1, 3), 12);
        of(24);
        system("class a rest 1 by 2; class b rest 0 by 9;");
        x.split(0, 3);
        good("join from the middle", x.join(2, 3), 2);
        good("its rest", x.classOf(1, 0), 1);
        good("its modulus", x.classOf(1, 1), 2);
        good("the other", x.classOf(0, 1), 9);
        daysFault("on a;", 3, 3);
        refused("not there", x.join(0, 3), 6);
        refused("can't be divided", x.join(0, 2), 7);
        refused("no class", x.join(2, 2), 1);
        refused("by 1", x.join(0, 1), 1);
        refused("by 8", x.join(0, 8), 1);
        joinsAmongMany();
    }

    private static void joinsAmongMany() {
        system("class a rest 0 by 4; class b rest 2 by 4 off; class c rest 0 by 4; class d rest 2 by 4; class e rest 2 by 4;");
        good("itself, and the first that is on", x.join(2, 2), 4);
        long[][] left = {{0, 4, 1}, {2, 4, 0}, {0, 2, 1}, {2, 4, 1}};
        for (int k = 0; k < 4; k++) {
            for (int what = 0; what < 3; what++) {
                good("left " + k, x.classOf(k, what), left[k][what]);
            }
        }
        daysOfText("on a;on b;on c;on e;", 4);
        refused("off and on", x.join(1, 2), 6);
        x.turn(0);
        good("both off", x.join(1, 2), 3);
        good("to all numbers", system("class a rest 0 by 2; class b rest 1 by 2;"), 2);
        good("joined", x.join(1, 2), 1);
        good("by 1", x.classOf(0, 1), 1);
        good("rest 0", x.classOf(0, 0), 0);
    }

    // ---- 26 to 30, 33 to 36

    private static void spans() {
        of(26);
        system("class a rest 0 by 2; class b rest 0 by 3; class c rest 0 by 35 off;");
        good("first", x.gapAt(0), 1);
        good("last", x.gapAt(1), 5);
        refused("no such", x.gapAt(2), 6);
        refused("-1", x.gapAt(-1), 6);
        x.add(0, 35);
        // Those without 2 and 3 are 1 and 5 by 6; 35 and 175 are not open.
        good("beyond 64", x.gapAt(23), 73);
        good("last", x.gapAt(67), 209);
        refused("behind it", x.gapAt(68), 6);
        of(27);
        system(FIVE);
        fraction("none", x.gaps(), 0, 1);
        x.turn(0);
        fraction("a third", x.gaps(), 1, 3);
        of(28);
        fraction("none on", x.weight(), 0, 1);
        system(FIVE);
        fraction("all", x.weight(), 4, 3);
        x.turn(1);
        fraction("less a third", x.weight(), 1, 1);
        of(29);
        system(FIVE);
        fraction("a", x.alone(0), 1, 3);
        fraction("e", x.alone(4), 1, 12);
        x.turn(1);
        refused("off", x.alone(1), 6);
        refused("no class", x.alone(5), 1);
        refused("no class", x.alone(-1), 1);
        of(30);
        system(FIVE);
        good("none", x.needless(), 0);
        x.add(1, 12);
        x.add(6, 6);
        x.add(0, 5);
        x.turn(7);
        good("two, and one whose numbers they share with others, not those off", x.needless(), 4 + 32 + 64);
        of(33);
        system("class a rest 59 by 60; class b rest 58 by 59 off; class c rest 0 by 2; class d rest 1 by 4; class e rest 1 by 6;");
        good("far", x.meet(0, 1), 3539);
        good("far", x.meet(1, 0), 3539);
        refused("never", x.meet(2, 3), 6);
        good("soon", x.meet(4, 3), 1);
        refused("itself", x.meet(2, 2), 1);
        refused("no class", x.meet(0, 5), 1);
        refused("no class", x.meet(-1, 0), 1);
        of(34);
        good("none on", x.thick(), 0);
        system("class a rest 1 by 2; class b rest 2 by 3; class c rest 3 by 4 off; class d rest 4 by 5;");
        good("three at 29", x.thick(), 3);
        of(35);
        refused("none on", x.ask(), 6);
        system("class a rest 1 by 2; class b rest 2 by 3; class c rest 3 by 4 off; class d rest 4 by 5;");
        good("29", x.ask(), 29);
        of(36);
        good("none on", x.turnsBy(), 1);
        system("class a rest 1 by 4; class b rest 3 by 4;");
        good("as one by 2", x.turnsBy(), 2);
        x.add(0, 3);
        good("by 6", x.turnsBy(), 6);
        x.add(0, 2);
        good("covered", x.turnsBy(), 1);
    }

    // ---- 31, 32

    private static void fewestSets() {
        of(31);
        good("none", x.fewest(), 0);
        system("class a rest 0 by 6; class b rest 0 by 2; class c rest 1 by 2; class d rest 0 by 1 off; class e rest 3 by 6;");
        good("two", x.fewest(), 2);
        x.turn(3);
        good("one", x.fewest(), 1);
        of(32);
        good("none", x.fewestSet(), 0);
        system("class a rest 0 by 6; class b rest 0 by 2; class c rest 1 by 2; class d rest 0 by 1 off; class e rest 3 by 6;");
        good("b and c", x.fewestSet(), 6);
        x.add(0, 2);
        good("the least of several", x.fewestSet(), 6);
        x.turn(1);
        good("the other one", x.fewestSet(), 36);
        x.turn(3);
        good("d", x.fewestSet(), 8);
    }

    // ---- 37, 38

    private static void trees() {
        of(37);
        good("nothing on: one free leaf", x.tree(1), 1);
        system(FIVE);
        long[] five = {5, 0, 8, 12};
        for (int what = 0; what < 4; what++) {
            good("tree " + what, x.tree(what), five[what]);
        }
        x.turn(0);
        // Parted by 2, 2, 3: of 0 by 4 and 2 by 4 one in three is caught by b; 1 by 4 by c; 3 by 4 as ahead.
        long[] four = {6, 4, 16, 12};
        for (int what = 0; what < 4; what++) {
            good("tree without the first " + what, x.tree(what), four[what]);
        }
        refused("4", x.tree(4), 1);
        refused("-1", x.tree(-1), 1);
        of(38);
        system(FIVE);
        good("even", x.leafOf(6), 2);
        good("1 by 4", x.leafOf(9997), 4);
        good("3 by 12", x.leafOf(9999), 12);
        refused("10000", x.leafOf(10000), 1);
        refused("-1", x.leafOf(-1), 1);
    }

    // ---- 39, 40

    private static void put(int tray, int... numbers) {
        x.tray(tray, 3, numbers.length);
        for (int i = 0; i < numbers.length; i++) {
            x.write(tray, i, numbers[i]);
        }
    }

    private static void choices() {
        of(39);
        put(0, 2, 4, 4);
        good("all", x.choices(0, 3, 0), 4);
        good("just once", x.choices(0, 3, 1), 4);
        good("none twice", x.choices(0, 3, 2), 4);
        good("two of them, none twice", x.choices(0, 2, 2), 4);
        good("two of them, all", x.choices(0, 2, 0), 0);
        good("none of them, all", x.choices(0, 0, 0), 0);
        good("none of them, just once", x.choices(0, 0, 1), 0);
        good("none of them, none twice", x.choices(0, 0, 2), 1);
        put(1, 1, 3, 2);
        good("1 catches all", x.choices(1, 3, 0), 6);
        good("and others twice", x.choices(1, 3, 1), 0);
        put(2, 60, 42, 2, 0);
        // Either parity is that of 2; 30 rests of 60 have the other, and of 42's 21 there two in three are apart.
        good("5,040 just", x.choices(2, 3, 2), 2 * 30 * 14);
        put(3, 60, 60, 2);
        refused("above 5,040", x.choices(3, 3, 0), 7);
        good("the first two", x.choices(3, 2, 2), 3540);
        choiceTroubles();
        of(40);
        put(0, 2, 4, 4);
        long[] first = {0, 1, 3};
        for (int k = 0; k < 3; k++) {
            good("rest " + k, x.choiceAt(0, 3, 1, k), first[k]);
        }
        refused("no such rest", x.choiceAt(0, 3, 1, 3), 1);
        refused("no such rest", x.choiceAt(0, 3, 1, -1), 1);
        refused("no such rest, ahead of missing", x.choiceAt(1, 3, 1, 3), 1);
        refused("missing", x.choiceAt(1, 3, 1, 2), 2);
        refused("too few", x.choiceAt(0, 4, 1, 2), 3);
        refused("none", x.choiceAt(0, 2, 0, 1), 6);
        refused("sort", x.choiceAt(0, 2, 3, 1), 1);
        put(1, 0, 60, 60, 60);
        refused("bad in the tray", x.choiceAt(1, 4, 0, 0), 5);
        x.write(1, 0, 1);
        refused("above 5,040", x.choiceAt(1, 4, 0, 0), 7);
        put(2, 3, 4, 2);
        refused("3 and 4 always meet", x.choiceAt(2, 3, 2, 0), 6);
        put(2, 6, 4, 2);
        good("0 by 6, 1 by 4, where 2 must not be", x.choices(2, 3, 2), 0);
        put(2, 6, 4, 3);
        good("4 apart from 6, and 3", x.choiceAt(2, 2, 2, 1), 1);
    }

    private static void choiceTroubles() {
        refused("no tray", x.choices(4, 0, 0), 1);
        refused("n 7", x.choices(0, 7, 0), 1);
        refused("n -1", x.choices(0, -1, 0), 1);
        refused("sort 3", x.choices(0, 0, 3), 1);
        refused("sort -1", x.choices(0, 0, -1), 1);
        refused("too few", x.choices(0, 4, 0), 3);
        refused("0 in the tray", x.choices(2, 4, 0), 5);
        x.write(2, 3, 61);
        refused("61 in the tray", x.choices(2, 4, 0), 5);
        x.write(2, 3, (1L << 32) + 1);
        refused("far too many in the tray", x.choices(2, 4, 0), 5);
        x = new ResidueCover();
        refused("missing", x.choices(0, 0, 0), 2);
    }

    // ---- 41, 42

    private static void games() {
        of(41);
        good("without classes", x.game(2), 5040);
        system(FIVE);
        good("0 turns", x.game(0), 0);
        good("1 turn", x.game(1), 1680);
        good("2 turns", x.game(2), 0);
        refused("3", x.game(3), 1);
        refused("-1", x.game(-1), 1);
        system("class a rest 0 by 11;");
        good("rounded down", x.game(0), 4581);
        good("it stays as it is", x.told(2), 1);
        of(42);
        refused("without classes", x.moveOf(1), 6);
        system(FIVE);
        good("1 turn", x.moveOf(1), 0);
        refused("0", x.moveOf(0), 1);
        refused("3", x.moveOf(3), 1);
        system("class a rest 0 by 3 off; class b rest 0 by 2; class c rest 0 by 2; class d rest 1 by 4;");
        good("d brings more", x.moveOf(1), 3);
        system("class a rest 0 by 2 off;");
        refused("none is better", x.moveOf(1), 6);
        good("with a second turn, as good", x.moveOf(2), 0);
        good("and worth", x.game(2), 2520);
        system("class a rest 0 by 2 off; class b rest 0 by 2;");
        good("of two as good the first, none last", x.moveOf(2), 0);
        gamesByTheLimit();
    }

    private static void gamesByTheLimit() {
        // 55 and 52 have a span of 2,860; with 7 it would be above 5,040, so that 7 can't be switched.
        system("class a rest 0 by 7 off; class b rest 0 by 55; class c rest 0 by 52;");
        int now = 5040 * (2860 - 52 - 55 + 1) / 2860;
        good("as it is", x.game(0), now);
        good("one turn", x.game(1), 5040 * 54 / 55);
        good("with b on alone more is open than with c on alone", x.moveOf(1), 2);
        system("class a rest 0 by 7 off; class b rest 0 by 55; class c rest 0 by 52; class d rest 0 by 1 off;");
        good("d is the second's", x.game(2), 0);
    }

    // ---- 43, 44

    private static void chances() {
        of(43);
        system("class a rest 0 by 3;");
        fraction("two of three open: one of two", x.uncaught(2, 1), 8, 9);
        fraction("both", x.uncaught(2, 2), 4, 9);
        fraction("three of two", x.uncaught(2, 3), 0, 1);
        fraction("none of two", x.uncaught(2, 0), 1, 1);
        fraction("three of five", x.uncaught(5, 3), 64, 81);
        refused("n 6", x.uncaught(6, 0), 1);
        refused("n -1", x.uncaught(-1, 0), 1);
        refused("k 6", x.uncaught(5, 6), 1);
        refused("k -1", x.uncaught(5, -1), 1);
        due("the fraction stays", x.top(), 64);
        system("class a rest 0 by 59; class b rest 0 by 60;");
        // 3,540 numbers, 59 * 60 of them; caught 60 + 59 - 1, so 1,711 of 1,770 are open.
        fraction("all of five", x.uncaught(5, 5), 1711L * 1711 * 1711 * 1711 * 1711 / (59L * 59 * 59 * 59 * 59), 24300000L);
    }

    private static void copies() {
        of(44);
        system(FIVE);
        x.tray(0, 0, 11);
        x.write(0, 10, 77);
        good("copy", x.copySystem(0), 5);
        long[] row = {0, 2, 0, 3, 1, 4, 5, 6, 7, 12, 77};
        for (int i = 0; i < row.length; i++) {
            good("read " + i, x.read(0, i), row[i]);
        }
        x.tray(1, 0, 9);
        refused("too few", x.copySystem(1), 3);
        good("unchanged", x.read(1, 1), 0);
        refused("missing", x.copySystem(2), 2);
        refused("no tray", x.copySystem(4), 1);
        refused("no tray", x.copySystem(-1), 1);
    }

    // ---- 45 to 47

    private static void lives() {
        of(45);
        refused("no days", x.live(0), 6);
        refused("seed -1", x.live(-1), 1);
        refused("seed 10000", x.live(10000), 1);
        system(FIVE);
        daysOfText("off a;off a;on a;shift 0;shift 3;split b 2;split e 7;when on a;shift 1;end;when caught 2;stop;end;any;", 12);
        good("live", x.live(9999), 11);
        long[] came = {3, 1, 1, 2, 0};
        of46(came);
        good("split", x.told(0), 6);
        good("its rest, shifted by 3 ahead and 1 behind", x.classOf(1, 0), 1);
        good("its part", x.classOf(5, 0), 4);
        drawsOfAny();
        daysOfStructure();
        missingClasses();
        of(46);
        refused("none yet", x.lived(0), 6);
        refused("5", x.lived(5), 1);
        refused("-1", x.lived(-1), 1);
        daysOfText("any;", 1);
        good("live", x.live(0), 1);
        good("any without classes is missed", x.lived(0), 1);
        refused("a bad seed", x.live(-1), 1);
        good("stays", x.lived(0), 1);
        system("");
        refused("no days", x.live(0), 6);
        good("stays", x.lived(0), 1);
    }

    private static void of46(long[] came) {
        promise = 46;
        for (int what = 0; what < 5; what++) {
            good("lived " + what, x.lived(what), came[what]);
        }
        promise = 45;
    }

    private static void drawsOfAny() {
        // Seed 1: 14,830, by 8 1,853, its rest by 2 is 1; then 45,845, by 8 5,730, its rest by 16 is 2.
        system("class a rest 0 by 2; class b rest 1 by 5; odds 2;");
        daysOfText("any;", 1);
        good("live", x.live(1), 1);
        good("2 is not below 2: shifted", x.classOf(1, 0), 2);
        of46(new long[] {0, 0, 0, 1, 0});
        x.rule(3);
        good("live", x.live(1), 1);
        good("2 is below 3: b is switched", x.told(2), 1);
        of46(new long[] {0, 0, 1, 0, 0});
        good("live", x.live(1), 1);
        good("and again", x.told(2), 3);
        of46(new long[] {0, 1, 0, 0, 0});
    }

    private static void daysOfStructure() {
        system("class a rest 0 by 60; class b rest 0 by 59 off;");
        daysOfText("loop 99;shift 1;shift 1;shift 1;shift 1;end;", 5);
        good("a loop counts once, 1 and 299", x.live(0), 300);
        of46(new long[] {0, 0, 0, 299, 1});
        daysOfText("loop 23;loop 12;shift 1;end;end;", 3);
        good("1, then 23 times 13: just 300", x.live(0), 300);
        of46(new long[] {0, 0, 0, 276, 0});
        daysOfText("loop 23;loop 12;shift 1;end;end;stop;", 4);
        good("300, and a stop is come to", x.live(0), 300);
        good("cut", x.lived(4), 1);
        daysOfText("loop 99;end;loop 99;loop 2;end;end;", 3);
        good("empty loops", x.live(0), 1 + 1 + 99);
        daysOfText("loop 3;when on b;off b;end;when on a;on b;end;end;", 5);
        good("1; when, when, on; then when, off, when, on twice", x.live(0), 1 + 3 + 4 + 4);
        of46(new long[] {0, 3, 2, 0, 0});
        daysOfText("", 0);
        good("days without steps", x.live(0), 0);
        of46(new long[] {0, 0, 0, 0, 0});
        tests();
    }

    private static boolean holds(String test) {
        daysOfText("when " + test + ";stop;end;stop;", 3);
        x.mark();
        // The inner stop is the second step; if the test fails the outer one is.
        daysOfText("when " + test + ";any;stop;end;stop;", 4);
        int done = x.live(0);
        x.undo();
        return done == 3;
    }

    private static void test(String text, boolean want) {
        due("when " + text, holds(text) ? 1 : 0, want ? 1 : 0);
    }

    private static void tests() {
        system("class a rest 0 by 2; class b rest 1 by 3; class c rest 0 by 11 off; class d rest 1 by 2 off;");
        test("covered", false);
        test("gaps = 2", true);
        test("gaps = 3", false);
        test("gaps < 2", false);
        test("gaps < 3", true);
        test("gaps > 1", true);
        test("gaps > 2", false);
        test("caught 9999", false);
        test("caught 1", true);
        test("on a", true);
        test("on d", false);
        x.turn(3);
        test("covered", true);
        test("gaps = 0", true);
        system("class a rest 0 by 60; class b rest 0 by 59; class c rest 0 by 58; class d rest 0 by 1;");
        test("covered", false);
        test("gaps = 0", false);
        test("gaps < 1", false);
        test("gaps > 0", false);
        test("caught 7", true);
    }

    private static void missingClasses() {
        system("class a rest 0 by 2; class b rest 1 by 3; class c rest 2 by 5;");
        daysOfText("off b;on c;off c;split c 2;when on c;any;any;any;end;", 8);
        x.drop(0);
        good("live", x.live(0), 5);
        // What was b's number is c's now, and c's number is nobody's.
        of46(new long[] {3, 0, 1, 0, 0});
        good("c is off, b is on", x.told(2), 1);
        x.add(0, 7);
        good("the number is somebody's again", x.live(0), 5);
        of46(new long[] {2, 0, 1, 0, 0});
        good("which is off and split", x.told(0), 4);
    }

    private static void means() {
        of(47);
        refused("no days", x.mean(0, 1), 6);
        refused("seed -1", x.mean(-1, 1), 1);
        refused("seed 10000", x.mean(10000, 1), 1);
        refused("many 0", x.mean(0, 0), 1);
        refused("many 21", x.mean(0, 21), 1);
        refused("the last 10000", x.mean(9990, 11), 1);
        system("class a rest 0 by 2; class b rest 1 by 5; odds 16;");
        daysOfText("any;", 1);
        fraction("one of two is off, always", x.mean(9990, 10), 1, 1);
        good("all stays", x.told(2), 3);
        refused("nothing was lived", x.lived(0), 6);
        // The second draw, by 16, of seed 0 is 9, of seed 1 it is 2.
        x.rule(9);
        fraction("seeds 0 and 1", x.mean(0, 2), 3, 2);
        fraction("seed 0", x.mean(0, 1), 2, 1);
        fraction("seed 1", x.mean(1, 1), 1, 1);
    }

    // ---- 48, 49

    private static void marks() {
        of(48);
        good("1", x.mark(), 1);
        good("2", x.mark(), 2);
        good("3", x.mark(), 3);
        refused("4", x.mark(), 4);
        of(49);
        refused("none", x.undo(), 6);
        system("odds 5; class a rest 0 by 2; class b rest 1 by 3 off;");
        daysOfText("on b;", 1);
        x.mark();
        x.tray(0, 0, 1);
        x.live(0);
        x.drop(0);
        x.mark();
        system("class z rest 0 by 9;");
        good("back", x.undo(), 1);
        good("b alone", x.told(0), 1);
        good("modulus", x.classOf(0, 1), 3);
        good("back", x.undo(), 0);
        long[] first = {2, 5, 1};
        for (int what = 0; what < 3; what++) {
            good("told " + what, x.told(what), first[what]);
        }
        good("days are back", x.live(0), 1);
        good("b", x.told(2), 3);
        good("names are back", days("off a;"), 1);
        good("trays are not taken back", x.read(0, 0), 0);
        refused("none", x.undo(), 6);
    }

    // ---- 7 ahead of 6, and who asks for the span

    private static void wideSpans() {
        of(13);
        system("class a rest 0 by 60; class b rest 1 by 59; class c rest 2 by 58; class d rest 0 by 1 off;");
        for (int what = 3; what <= 5; what++) {
            refused("told " + what, x.told(what), 7);
        }
        good("couples", x.told(6), 3);
        good("unlike", x.told(7), 1);
        good("caught", x.caught(60), 7);
        good("tightest", x.tightest(60), 2);
        promise = 26;
        refused("gapAt", x.gapAt(-1), 7);
        refused("gaps", x.gaps(), 7);
        refused("weight", x.weight(), 7);
        refused("alone, off", x.alone(3), 7);
        refused("alone, no class", x.alone(4), 1);
        refused("needless", x.needless(), 7);
        refused("fewest", x.fewest(), 7);
        refused("fewestSet", x.fewestSet(), 7);
        good("meet", x.meet(0, 1), 60);
        refused("thick", x.thick(), 7);
        refused("ask", x.ask(), 7);
        refused("turnsBy", x.turnsBy(), 7);
        promise = 37;
        refused("tree", x.tree(0), 7);
        refused("tree 4", x.tree(4), 1);
        refused("leafOf", x.leafOf(0), 7);
        refused("leafOf -1", x.leafOf(-1), 1);
        promise = 41;
        refused("game", x.game(0), 7);
        refused("game 3", x.game(3), 1);
        refused("moveOf", x.moveOf(1), 7);
        refused("moveOf 0", x.moveOf(0), 1);
        refused("uncaught", x.uncaught(0, 0), 7);
        refused("uncaught 6", x.uncaught(6, 0), 1);
        promise = 13;
        system("class a rest 0 by 48; class b rest 0 by 45; class c rest 0 by 7;");
        good("5,040 is a span", x.told(3), 5040);
        x.add(0, 11);
        refused("55,440 is none", x.told(3), 7);
        x.turn(3);
        good("off, it does not count", x.told(3), 5040);
    }

    /** Twelve classes and the greatest span: all rows are used to their ends. */
    private static void fullHouse() {
        of(13);
        int[] moduli = {48, 45, 7, 16, 9, 5, 21, 35, 15, 60, 40, 42};
        for (int k = 0; k < 12; k++) {
            good("add", x.add(0, moduli[k]), k);
        }
        good("span", x.told(3), 5040);
        // Open is what neither 5, 7, 9 nor 16 divides: of 5,040 numbers 4 by 5, 6 by 7, 8 by 9, 15 by 16 ..
        int open = 4 * 6 * 8 * 15;
        good("gaps", x.told(4), open);
        good("couples", x.told(6), 66);
        good("unlike", x.told(7), 1);
        fraction("gaps", x.gaps(), open / 720, 7);
        good("first gap", x.gapAt(0), 1);
        good("last gap", x.gapAt(open - 1), 5039);
        refused("behind it", x.gapAt(open), 6);
        good("fewest", x.fewestSet(), 4 + 8 + 16 + 32);
        good("needless", x.needless(), 4095 - 4 - 8 - 16 - 32);
        good("thick", x.thick(), 12);
        good("ask", x.ask(), 0);
        good("turnsBy", x.turnsBy(), 5040);
        good("greatest m", x.tree(3), 5040);
        good("leaf", x.leafOf(1), 5040);
        good("game", x.game(0), open);
        // Without 5 those of its numbers are open that neither 3, 7 nor 8 divides: 1 by 5, 2 by 3, 6 by 7, 7 by 8.
        good("without 5", x.game(1), open + 504);
        good("moveOf", x.moveOf(1), 5);
        good("tightest", x.tightest(5040), 5);
        good("meet", x.meet(10, 11), 0);
        x.shift(59);
        good("shifted", x.classOf(11, 0), 17);
        refused("split", x.split(0, 2), 4);
        refused("spread", x.spread(2), 7);
        refused("join", x.join(0, 3), 6);
        x.tray(0, 0, 24);
        good("copy", x.copySystem(0), 12);
        good("the last", x.read(0, 23), 42);
        x.tray(1, 0, 6);
        int[] six = {5, 7, 9, 16, 1, 1};
        for (int i = 0; i < 6; i++) {
            x.write(1, i, six[i]);
        }
        good("choices", x.choices(1, 6, 0), 5040);
        good("none is free of the others", x.choices(1, 4, 2), 0);
        good("the last rest", x.choiceAt(1, 6, 0, 5), 0);
        good("drop", x.drop(11), 11);
        good("drop", x.drop(0), 10);
        good("the last", x.classOf(9, 1), 40);
    }
}
