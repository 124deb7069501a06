/** Long runs of calls, the same on the class and on PlainCover: each answer, status and fraction must agree. */
public final class AgainstPlainTest {
    private static final int RUNS = 1500;
    private static final int CALLS = 120;
    private static final int[] NICE_MODULI = {1, 2, 2, 3, 3, 4, 4, 5, 6, 6, 7, 8, 9, 10, 12, 12, 14, 15, 16, 18, 20, 24,
        30, 36, 40, 42, 45, 48, 60};
    private static final String[] NAMES = {"a", "b", "c", "d", "e", "f", "g", "h", "i", "j", "k", "l", "m", "abcdefgh"};
    private static final String[] SCRAPS = {"odds", "class", "rest", "by", "off", "on", "shift", "split", "any", "when",
        "covered", "caught", "gaps", "loop", "end", "stop", ";", "<", ">", "=", "a", "b", "abcdefghi", "0", "1", "7",
        "16", "17", "60", "61", "99", "100", "5040", "5041", "9999", "12345", "\t", "A", "\u00e9", ":", "\n", "0004"};

    private long state;
    private ResidueCover x;
    private PlainCover y;
    private StringBuilder log;
    private int wrong;
    private final java.util.TreeMap<String, Integer> seen = new java.util.TreeMap<>();

    public static void main(String[] args) {
        AgainstPlainTest t = new AgainstPlainTest();
        int runs = args.length > 1 ? Integer.parseInt(args[1]) : RUNS;
        int first = args.length > 2 ? Integer.parseInt(args[2]) : 0;
        for (int run = first; run < first + runs && t.wrong == 0; run++) {
            t.oneRun(run);
        }
        if (args.length > 1) {
            t.seen.forEach((what, many) -> System.out.println(what + ": " + many));
        }
        System.exit(t.wrong == 0 ? 0 : 1);
    }

    private void oneRun(int run) {
        state = run * 0x9E3779B97F4A7C15L + 12345;
        x = new ResidueCover();
        y = new PlainCover();
        log = new StringBuilder();
        // Narrow runs keep to few moduli, so that spans are small and calls that ask for them are answered.
        boolean wild = run % 5 == 4;
        if (run % 4 != 0) {
            setUp(wild);
        }
        for (int i = 0; i < CALLS && wrong == 0; i++) {
            oneCall(wild);
            same("status", x.status(), y.status());
            same("top", x.top(), y.top());
            same("bottom", x.bottom(), y.bottom());
        }
        if (wrong != 0) {
            System.out.println("run " + run + ":\n" + log);
        }
    }

    /** Most runs begin with classes that have names and with trays, since most calls ask for them. */
    private void setUp(boolean wild) {
        StringBuilder s = new StringBuilder();
        int many = from(4, 8);
        for (int k = 0; k < many; k++) {
            int m = modulus(wild);
            s.append("class ").append(NAMES[k]).append(" rest ").append(below(m)).append(" by ").append(m).append(";");
        }
        send(s.toString(), true);
        int sort = below(4);
        for (int t = 0; t < 3; t++) {
            int places = from(6, 30);
            int own = below(3) == 0 ? below(4) : sort;
            log.append("tray ").append(t).append(' ').append(own).append(' ').append(places).append('\n');
            x.tray(t, own, places);
            y.tray(t, own, places);
        }
    }

    private int below(int n) {
        state = state * 6364136223846793005L + 1442695040888963407L;
        return (int) ((state >>> 33) % n);
    }

    private int from(int low, int high) {
        return low + below(high - low + 1);
    }

    /** Mostly a number of the range, now and then one at or beyond its edges. */
    private int near(int low, int high) {
        switch (below(24)) {
            case 0:
                return low - 1;
            case 1:
                return high + 1;
            case 2:
                return low;
            case 3:
                return high;
            case 4:
                int[] far = {Integer.MIN_VALUE, Integer.MAX_VALUE, -100, 70000};
                return below(4) == 0 ? far[below(4)] : from(low, high);
            default:
                return from(low, high);
        }
    }

    private int modulus(boolean wild) {
        return wild && below(2) == 0 ? from(1, 60) : NICE_MODULI[below(wild ? NICE_MODULI.length : 16)];
    }

    private void same(String call, long got, long want) {
        if (got != want) {
            wrong++;
            log.append("!! ").append(call).append(" answered ").append(got).append(", due is ").append(want).append('\n');
        }
    }

    private void check(String call, long got, long want) {
        log.append(call).append(" = ").append(got).append('\n');
        same(call, got, want);
        String word = call.indexOf(' ') < 0 ? call : call.substring(0, call.indexOf(' '));
        String outcome = word.equals("fault") || word.equals("feed") ? call + " " + (got == -1 ? "none" : call.equals("fault 0") ? got : "some")
                : word + " status " + x.status();
        seen.merge(outcome, 1, Integer::sum);
    }

    private static long bit(boolean b) {
        return b ? 1 : 0;
    }

    private void oneCall(boolean wild) {
        int group = below(20);
        if (group < 4) {
            change(wild);
        } else if (group < 12) {
            ask();
        } else if (group < 14) {
            trays();
        } else if (group < 15) {
            if (below(3) == 0) {
                systemText(wild);
            }
        } else if (group < 17) {
            daysText();
        } else {
            lives();
        }
    }

    private void change(boolean wild) {
        int k = near(0, Math.max(0, x.told(0) - 1));
        y.told(0);
        int n = near(2, 7);
        int small = below(2) == 0 ? from(2, 3) : n;
        switch (below(12)) {
            case 0, 1:
                check("turn " + k, x.turn(k), y.turn(k));
                break;
            case 2, 3:
                int r = near(0, 59);
                int m = below(30) == 0 ? near(1, 60) : modulus(wild);
                check("add " + r + " " + m, x.add(r, m), y.add(r, m));
                break;
            case 4:
                check("drop " + k, x.drop(k), y.drop(k));
                break;
            case 5:
                int to = near(0, 59);
                check("move " + k + " " + to, x.move(k, to), y.move(k, to));
                break;
            case 6:
                int by = near(0, 59);
                check("shift " + by, bit(x.shift(by)), bit(y.shift(by)));
                break;
            case 7:
                if (below(3) == 0) {
                    int s = below(3) == 0 ? near(2, 60) : small;
                    check("spread " + s, x.spread(s), y.spread(s));
                }
                break;
            case 8, 9:
                check("split " + k + " " + small, x.split(k, small), y.split(k, small));
                break;
            case 10:
                check("join " + k + " " + small, x.join(k, small), y.join(k, small));
                break;
            default:
                int o = near(0, 16);
                check("rule " + o, bit(x.rule(o)), bit(y.rule(o)));
                break;
        }
    }

    private void ask() {
        int k = near(0, Math.max(0, x.told(0) - 1));
        y.told(0);
        int other = near(0, 4);
        int n = near(0, 9999);
        int what = near(0, 7);
        switch (below(20)) {
            case 0, 1:
                check("told " + what, x.told(what), y.told(what));
                break;
            case 2:
                check("classOf " + k, x.classOf(k, what - 3), y.classOf(k, what - 3));
                break;
            case 3:
                check("caught " + n, x.caught(n), y.caught(n));
                break;
            case 4:
                check("tightest " + n, x.tightest(n), y.tightest(n));
                break;
            case 5:
                int gap = near(0, 40);
                check("gapAt " + gap, x.gapAt(gap), y.gapAt(gap));
                break;
            case 6:
                check("gaps", bit(x.gaps()), bit(y.gaps()));
                break;
            case 7:
                check("weight", bit(x.weight()), bit(y.weight()));
                break;
            case 8:
                check("alone " + k, bit(x.alone(k)), bit(y.alone(k)));
                break;
            case 9:
                check("needless", x.needless(), y.needless());
                break;
            case 10:
                check("fewest", x.fewest(), y.fewest());
                check("fewestSet", x.fewestSet(), y.fewestSet());
                break;
            case 11:
                check("meet " + k + " " + other, x.meet(k, other), y.meet(k, other));
                break;
            case 12:
                check("thick", x.thick(), y.thick());
                break;
            case 13:
                check("ask", x.ask(), y.ask());
                break;
            case 14:
                check("turnsBy", x.turnsBy(), y.turnsBy());
                break;
            case 15:
                check("tree " + (what - 2), x.tree(what - 2), y.tree(what - 2));
                break;
            case 16:
                check("leafOf " + n, x.leafOf(n), y.leafOf(n));
                break;
            case 17:
                int turns = near(0, 2);
                check("game " + turns, x.game(turns), y.game(turns));
                break;
            case 18:
                int first = near(1, 2);
                check("moveOf " + first, x.moveOf(first), y.moveOf(first));
                break;
            default:
                int many = near(0, 5);
                int least = near(0, 5);
                check("uncaught " + many + " " + least, bit(x.uncaught(many, least)), bit(y.uncaught(many, least)));
                break;
        }
    }

    private void trays() {
        int t = near(0, 3);
        int u = near(0, 3);
        int place = near(0, 8);
        int at = near(0, 8);
        switch (below(8)) {
            case 0:
                int sort = near(0, 3);
                int many = below(3) == 0 ? near(0, 60) : near(0, 9);
                check("tray " + t + " " + sort + " " + many, bit(x.tray(t, sort, many)), bit(y.tray(t, sort, many)));
                break;
            case 1, 2:
                long v = below(4) == 0 ? ((long) from(0, Integer.MAX_VALUE - 1) << below(34)) - from(0, 99999) : from(1, 9);
                check("write " + t + " " + place + " " + v, bit(x.write(t, place, v)), bit(y.write(t, place, v)));
                break;
            case 3:
                check("read " + t + " " + place, x.read(t, place), y.read(t, place));
                break;
            case 4:
                int n = near(0, 5);
                check("pour " + t + " " + place + " " + u + " " + at + " " + n, bit(x.pour(t, place, u, at, n)),
                        bit(y.pour(t, place, u, at, n)));
                break;
            case 5:
                check("copySystem " + t, x.copySystem(t), y.copySystem(t));
                break;
            default:
                choose(t);
                break;
        }
    }

    private void choose(int t) {
        int n = near(0, 5);
        int sort = near(0, 2);
        if (below(2) == 0 && t >= 0 && t < 4) {
            x.tray(t, 1, 7);
            y.tray(t, 1, 7);
            for (int i = 0; i < 7; i++) {
                int m = below(40) == 0 ? near(1, 60) : NICE_MODULI[below(10)];
                log.append("write ").append(t).append(' ').append(i).append(' ').append(m).append('\n');
                x.write(t, i, m);
                y.write(t, i, m);
            }
        }
        check("choices " + t + " " + n + " " + sort, x.choices(t, n, sort), y.choices(t, n, sort));
        int k = near(0, Math.max(0, Math.min(n, 6) - 1));
        check("choiceAt " + t + " " + n + " " + sort + " " + k, x.choiceAt(t, n, sort, k), y.choiceAt(t, n, sort, k));
    }

    private String number(int low, int high) {
        return below(100) == 0 ? String.valueOf(high + 1) : String.valueOf(from(low, high));
    }

    private String blank() {
        return below(20) == 0 ? "\n " : " ";
    }

    private void systemText(boolean wild) {
        StringBuilder s = new StringBuilder();
        int parts = below(4) == 0 ? from(0, 14) : from(1, 7);
        boolean mayRepeat = below(8) == 0;
        for (int i = 0; i < parts; i++) {
            if (below(8) == 0 && (mayRepeat || s.indexOf("odds") < 0)) {
                s.append("odds").append(blank()).append(number(0, 16)).append(";");
            } else {
                s.append("class ").append(NAMES[mayRepeat ? below(NAMES.length) : i % NAMES.length]).append(blank())
                        .append("rest ").append(number(0, 59)).append(" by").append(blank()).append(modulus(wild))
                        .append(below(5) == 0 ? " off" : "").append(below(3) == 0 ? " ;\n" : ";");
            }
        }
        send(spoil(s.toString(), 900), true);
    }

    private String spoil(String text, int most) {
        String made = text;
        if (below(5) == 0) {
            int at = below(made.length() + 1);
            int end = Math.min(made.length(), at + below(4));
            String scrap = below(3) == 0 ? "" : (below(2) == 0 ? " " : "") + SCRAPS[below(SCRAPS.length)] + (below(2) == 0 ? " " : "");
            made = made.substring(0, at) + scrap + made.substring(end);
        }
        return made.length() > most ? made.substring(0, most) : made;
    }

    private void daysText() {
        StringBuilder s = new StringBuilder();
        steps(s, 0, below(12) == 0 ? 34 : from(0, 6));
        send(spoil(s.toString(), 310), false);
    }

    private void steps(StringBuilder s, int depth, int many) {
        for (int i = 0; i < many; i++) {
            String name = NAMES[below(below(30) == 0 ? NAMES.length : 4)];
            switch (below(9)) {
                case 0:
                    s.append("on ").append(name).append(";");
                    break;
                case 1:
                    s.append("off ").append(name).append(";");
                    break;
                case 2:
                    s.append("shift ").append(number(0, 59)).append(";");
                    break;
                case 3:
                    s.append("split ").append(name).append(" ").append(below(3) == 0 ? number(2, 7) : "2").append(";");
                    break;
                case 4:
                    s.append(below(12) == 0 ? "stop;" : "any;");
                    break;
                case 5, 6:
                    s.append(below(2) == 0 ? "any;" : "any ;\n");
                    break;
                default:
                    open(s, depth, name);
                    break;
            }
        }
    }

    private void open(StringBuilder s, int depth, String name) {
        if (depth >= (below(6) == 0 ? 4 : 3)) {
            s.append("any;");
            return;
        }
        switch (below(6)) {
            case 0:
                s.append("when covered;");
                break;
            case 1:
                s.append("when caught ").append(number(0, 9998)).append(";");
                break;
            case 2:
                s.append("when on ").append(name).append(";");
                break;
            case 3:
                s.append("when gaps").append("<>=".charAt(below(3))).append(below(3) == 0 ? number(0, 5040) : number(0, 9)).append(";");
                break;
            default:
                s.append("loop ").append(below(4) == 0 ? number(1, 99) : from(1, 9)).append(";");
                break;
        }
        steps(s, depth + 1, from(0, 3));
        s.append("end;");
    }

    private void send(String text, boolean isSystem) {
        log.append(text).append('\n');
        int fed = 0;
        boolean more = below(40) == 0;
        for (int i = 0; i < text.length() || more && i < 1000; i += 20) {
            int[] five = new int[5];
            for (int j = 0; j < 20; j++) {
                int b = i + j < text.length() ? text.charAt(i + j) : 0;
                five[j / 4] |= b << (8 * (3 - j % 4));
            }
            int got = x.feed(five[0], five[1], five[2], five[3], five[4]);
            check("feed", got, y.feed(five));
            fed = got == -1 ? fed : got;
        }
        int n = below(15) == 0 ? near(0, fed) : text.length();
        if (isSystem) {
            check("system " + n, x.system(n), y.system(n));
        } else {
            check("days " + n, x.days(n), y.days(n));
        }
        check("fault 0", x.fault(0), y.fault(0));
        check("fault 1", x.fault(1), y.fault(1));
        check("fault 2", x.fault(2), y.fault(2));
    }

    private void lives() {
        int seed = near(0, 9999);
        int what = near(0, 4);
        switch (below(6)) {
            case 0, 1:
                check("live " + seed, x.live(seed), y.live(seed));
                for (int i = 0; i < 5; i++) {
                    check("lived " + i, x.lived(i), y.lived(i));
                }
                break;
            case 2:
                check("lived " + what, x.lived(what), y.lived(what));
                break;
            case 3:
                int many = near(1, 20);
                check("mean " + seed + " " + many, bit(x.mean(seed, many)), bit(y.mean(seed, many)));
                break;
            case 4:
                check("mark", x.mark(), y.mark());
                break;
            default:
                if (below(2) == 0) {
                    check("undo", x.undo(), y.undo());
                }
                break;
        }
    }
}
