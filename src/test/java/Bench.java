import java.util.ArrayList;
import java.util.List;

/**
 * What the tests of the document's edges share. Each test begins with term(..) or promise(..), which quote the words
 * of ../shared/DOC.md that it belongs to and make a new object; EdgesTest looks whether the quotes are the document's.
 */
abstract class Bench {
    static final String FIVE =
            "odds 8; class a rest 0 by 2; class b rest 0 by 3; class c rest 1 by 4; class d rest 5 by 6; class e rest 7 by 12;";
    static final int[] FAR = {Integer.MIN_VALUE, Integer.MAX_VALUE};

    /** Quotes in a row; the promise that each belongs to, 0 for the terms. */
    static final List<String> QUOTES = new ArrayList<>();
    static final List<Integer> PROMISES = new ArrayList<>();
    static int wrong;

    ResidueCover x;

    abstract void run();

    final void term(String words) {
        promise(0, words);
    }

    final void promise(int number, String words) {
        QUOTES.add(words);
        PROMISES.add(number);
        x = new ResidueCover();
    }

    final void anew() {
        x = new ResidueCover();
    }

    // ---- what is due

    final void due(String call, long got, long want) {
        if (got != want) {
            wrong++;
            int last = QUOTES.size() - 1;
            System.out.println((PROMISES.get(last) == 0 ? "terms" : "promise " + PROMISES.get(last)) + ", \""
                    + QUOTES.get(last) + "\": " + call + " answered " + got + ", due is " + want);
        }
    }

    final void gives(String call, long got, long want) {
        int status = x.status();
        due(call, got, want);
        due("status behind " + call, status, 0);
    }

    final void does(String call, boolean got) {
        gives(call, got ? 1 : 0, 1);
    }

    final void refused(String call, long got, int want) {
        int status = x.status();
        due(call, got, ResidueCover.NONE);
        due("status behind " + call, status, want);
    }

    final void refused(String call, boolean got, int want) {
        int status = x.status();
        due(call, got ? 1 : 0, 0);
        due("status behind " + call, status, want);
    }

    final void fraction(String call, boolean got, long top, long bottom) {
        does(call, got);
        due("top behind " + call, x.top(), top);
        due("bottom behind " + call, x.bottom(), bottom);
    }

    // ---- texts

    /** Feeds the text, zeros behind it up to a multiple of twenty. */
    final void feed(String text) {
        for (int i = 0; i < text.length(); i += 20) {
            int[] five = new int[5];
            for (int j = 0; j < 20; j++) {
                int b = i + j < text.length() ? text.charAt(i + j) : 0;
                five[j / 4] |= b << (8 * (3 - j % 4));
            }
            x.feed(five[0], five[1], five[2], five[3], five[4]);
        }
    }

    final int system(String text) {
        feed(text);
        return x.system(text.length());
    }

    final int days(String text) {
        feed(text);
        return x.days(text.length());
    }

    final void takes(String text, int classes) {
        gives("system " + shown(text), system(text), classes);
    }

    final void takesDays(String text, int steps) {
        gives("days " + shown(text), days(text), steps);
    }

    final void fault(String text, int kind, int place) {
        refused("system " + shown(text), system(text), 9);
        faultIs(text, kind, place);
    }

    final void daysFault(String text, int kind, int place) {
        refused("days " + shown(text), days(text), 9);
        faultIs(text, kind, place);
    }

    private void faultIs(String text, int kind, int place) {
        due("fault of " + shown(text), x.fault(0), kind);
        due("place of the fault of " + shown(text), x.fault(1), place);
    }

    private static String shown(String text) {
        return "'" + text.replace("\n", "\\n") + "'";
    }

    /** As many classes as told, named a, b .., all of which catch every number. */
    static String classes(int many) {
        StringBuilder s = new StringBuilder();
        for (int k = 0; k < many; k++) {
            s.append("class ").append((char) ('a' + k)).append(" rest 0 by 1;");
        }
        return s.toString();
    }

    // ---- what is there

    /** Of each class REST, MODULUS, and whether it is ON, as a text: 1/2+ 0/3- .. */
    final String all() {
        StringBuilder s = new StringBuilder();
        int many = x.told(0);
        for (int k = 0; k < many; k++) {
            s.append(k == 0 ? "" : " ").append(x.classOf(k, 0)).append('/').append(x.classOf(k, 1))
                    .append(x.classOf(k, 2) == 1 ? '+' : '-');
        }
        return s.toString();
    }

    final void allAre(String when, String want) {
        String got = all();
        if (!got.equals(want)) {
            due("the classes " + when + " are " + got + ", not " + want + ": whether they are as due", 0, 1);
        }
    }

    /** Adds classes told as in all(), all that have no name. */
    final void put(String told) {
        for (String one : told.split(" ")) {
            int slash = one.indexOf('/');
            int k = x.add(Integer.parseInt(one.substring(0, slash)),
                    Integer.parseInt(one.substring(slash + 1, one.length() - 1)));
            if (one.endsWith("-")) {
                x.turn(k);
            }
        }
    }

    /** A TRAY of 64 bits with these numbers. */
    final void row(int tray, long... numbers) {
        x.tray(tray, 3, numbers.length);
        for (int i = 0; i < numbers.length; i++) {
            x.write(tray, i, numbers[i]);
        }
    }

    final void rowIs(int tray, long... numbers) {
        for (int i = 0; i < numbers.length; i++) {
            gives("read " + tray + " " + i, x.read(tray, i), numbers[i]);
        }
    }
}
