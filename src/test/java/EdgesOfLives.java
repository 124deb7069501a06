/** Edges of DAYS as they are LIVED, and of MARKS: promises 45 to 49. */
final class EdgesOfLives extends Bench {
    @Override
    void run() {
        testsBySpan();
        testsByNumber();
        namesByNumber();
        draws();
        anyStep();
        missed();
        missedSplits();
        loops();
        mostSteps();
        stops();
        live();
        lived();
        mean();
        marks();
        markCalls();
    }

    /** Whether the test holds: of the days' two steps behind it only the first is done then. */
    private void test(String test, boolean want) {
        feed("when " + test + ";stop;end;shift 1;shift 1;");
        int steps = x.days(("when " + test + ";stop;end;shift 1;shift 1;").length());
        gives("days with " + test, steps, 4);
        x.mark();
        gives("live with " + test, x.live(0), want ? 2 : 3);
        x.undo();
    }

    private void testsBySpan() {
        term("covered, gaps are not so, if SPAN is above 5,040;");
        takes("class a rest 0 by 60; class b rest 0 by 59; class c rest 0 by 58; class d rest 0 by 1;", 4);
        for (String t : new String[] {"covered", "gaps = 0", "gaps < 5040", "gaps > 0"}) {
            test(t, false);
        }
        test("caught 7", true);
        test("on d", true);
        x.turn(2);
        test("covered", true);
        test("gaps = 0", true);
        test("gaps < 1", true);
        anew();
        takes("class a rest 0 by 48; class b rest 0 by 45; class c rest 0 by 7;", 3);
        test("gaps = 4140", true);
        test("gaps < 4141", true);
        test("gaps > 4139", true);
        test("covered", false);
    }

    private void testsByNumber() {
        term("shift: 0 to 59; split: by 2 to 7; caught: 0 to 9,999; gaps: how many there are, against 0 to 5,040;");
        test("gaps = 1", true);
        test("gaps < 1", false);
        test("gaps > 1", false);
        test("gaps > 0", true);
        test("gaps < 0", false);
        test("covered", false);
        test("caught 0", false);
        takes("class a rest 39 by 60; class b rest 0 by 2 off;", 2);
        test("caught 9999", true);
        test("caught 9998", false);
        test("caught 0", false);
        test("gaps = 59", true);
        test("gaps > 59", false);
        test("gaps < 59", false);
        test("gaps > 58", true);
        test("gaps < 60", true);
        test("gaps < 5040", true);
        test("gaps > 5040", false);
        test("on a", true);
        test("on b", false);
        takesDays("shift 59;", 1);
        x.live(0);
        allAre("by 59", "38/60+ 1/2-");
    }

    private void namesByNumber() {
        term("a NAME is of the CLASS that has the number that it had as the text came (if there is none, it is not on);");
        takes("class a rest 0 by 2; class b rest 0 by 3; class c rest 0 by 5;", 3);
        takesDays("off b;", 1);
        x.drop(0);
        gives("live", x.live(0), 1);
        allAre("number 1 is off", "0/3+ 0/5-");
        anew();
        takes("class a rest 0 by 2; class b rest 0 by 3;", 2);
        takesDays("when on b;shift 1;end;split b 2;on b;off b;", 5);
        x.drop(1);
        gives("the test and three steps", x.live(0), 4);
        gives("all three are missed", x.lived(0), 3);
        allAre("then", "0/2+");
        x.add(0, 7);
        gives("another has the number: all five", x.live(0), 5);
        gives("on is missed", x.lived(0), 1);
        allAre("then", "1/2+ 1/14- 8/14+");
    }

    private static int next(int s) {
        return (s * 3299 + 11531) % 65536;
    }

    private void draws() {
        term("Draws: s, at first the seed, becomes what is left of s times 3,299 and 11,531 by 65,536; the draw by n is the rest of s by 8, rounded down, by n.");
        String twelve = "odds 16;" + classes(12);
        takes(twelve, 12);
        takesDays("any;any;any;any;any;", 5);
        for (int seed : new int[] {0, 1, 7, 5000, 9998, 9999}) {
            x.mark();
            int s = seed;
            int set = 4095;
            for (int i = 0; i < 5; i++) {
                s = next(s);
                set ^= 1 << (s / 8 % 12);
                s = next(s);
            }
            gives("live " + seed, x.live(seed), 5);
            gives("those that are on by seed " + seed, x.told(2), set);
            x.undo();
        }
        // By hand: 0 becomes 11,531, by 8 1,441, whose rest by 12 is 1.
        takesDays("any;", 1);
        x.live(0);
        gives("class 1 is off", x.told(2), 4095 - 2);
    }

    private void anyStep() {
        term("any: a CLASS by a draw by how many there are, a draw by 16 (both first): if that is below ODDS, it is SWITCHED, else all are SHIFTED by 1.");
        // Seed 1: 14,830, by 8 1,853, its rest by 2 is 1; then 45,845, by 8 5,730, its rest by 16 is 2.
        String two = "class a rest 1 by 2; class b rest 4 by 5 off;";
        takes("odds 2;" + two, 2);
        takesDays("any;", 1);
        x.live(1);
        allAre("2 is not below 2", "0/2+ 0/5-");
        x.rule(3);
        x.live(1);
        allAre("2 is below 3", "0/2+ 0/5+");
        x.live(1);
        allAre("and again", "0/2+ 0/5-");
        x.rule(0);
        for (int seed = 0; seed < 20; seed++) {
            x.live(seed);
            gives("odds 0: always shifted", x.lived(3), 1);
        }
        x.rule(16);
        for (int seed = 0; seed < 20; seed++) {
            x.live(seed);
            gives("odds 16: never shifted", x.lived(3), 0);
        }
        anew();
        takes("odds 8;" + two, 2);
        takesDays("any;any;any;any;", 4);
        // Two draws each: 1, 3, 5 and 7 are for the class, 2, 4, 6 and 8 for what is done.
        int s = 77;
        int on = 1;
        int shifts = 0;
        for (int i = 0; i < 4; i++) {
            int first = next(s);
            s = next(first);
            boolean isSwitch = s / 8 % 16 < 8;
            on ^= isSwitch ? 1 << (first / 8 % 2) : 0;
            shifts += isSwitch ? 0 : 1;
        }
        x.live(77);
        gives("on", x.told(2), on);
        gives("shifts", x.lived(3), shifts);
    }

    private void one(String step, int missed) {
        takesDays(step, 1);
        x.mark();
        gives("live " + step, x.live(5), 1);
        gives("missed by " + step, x.lived(0), missed);
        x.undo();
    }

    private void missed() {
        term("What can't be is MISSED: an on, off of what is so, of no CLASS, a shift by 0, a split of no CLASS, as it can't be, any without CLASSES (no draws).");
        takes("class a rest 0 by 2; class b rest 0 by 3 off; class c rest 0 by 5;", 3);
        one("on a;", 1);
        one("on b;", 0);
        one("off a;", 0);
        one("off b;", 1);
        one("shift 0;", 1);
        one("shift 1;", 0);
        one("split c 2;", 0);
        one("any;", 0);
        one("stop;", 0);
        one("when covered;end;", 0);
        one("loop 9;end;", 0);
        feed("on c;off c;split c 2;");
        gives("days", x.days(21), 3);
        x.drop(0);
        gives("of no class", x.live(0), 3);
        gives("of no class", x.lived(0), 3);
        anew();
        one("any;", 1);
        one("shift 1;", 0);
        one("shift 0;", 1);
        takesDays("loop 99;any;any;any;end;", 4);
        gives("any without classes", x.live(0), 298);
        gives("all are missed", x.lived(0), 297);
        gives("no shift", x.lived(3), 0);
    }

    private void missedSplits() {
        term("a split of no CLASS, as it can't be,");
        takes("class a rest 0 by 30; class b rest 0 by 31; class c rest 0 by 1;", 3);
        one("split a 2;", 0);
        one("split a 3;", 1);
        one("split b 2;", 1);
        one("split c 7;", 0);
        takesDays("split c 7;split c 4;split c 5;split c 4;split a 2;", 5);
        gives("live", x.live(0), 5);
        gives("9, 12, then a 13th thrice", x.lived(0), 3);
        gives("twelve", x.told(0), 12);
        gives("the modulus", x.classOf(2, 1), 28);
    }

    private void loops() {
        term("loop n (1 to 99): as often.");
        takes("class a rest 0 by 60;", 1);
        takesDays("loop 1;shift 1;end;", 2);
        x.live(0);
        allAre("once", "1/60+");
        takesDays("loop 99;shift 1;end;", 2);
        x.live(0);
        allAre("99 times more", "40/60+");
        takesDays("loop 3;shift 1;loop 4;shift 1;loop 2;shift 1;end;end;end;", 6);
        gives("1, 3 times 2, 12 times 2, 24", x.live(0), 1 + 3 * 2 + 12 * 2 + 24);
        gives("shifts", x.lived(3), 3 + 12 + 24);
        takesDays("loop 99;loop 1;end;end;shift 1;", 3);
        gives("empty ones", x.live(0), 1 + 99 + 1);
    }

    private void mostSteps() {
        term("At most 300 STEPS (when, loop count as one each time they are come to from ahead; end does not).");
        takes("class a rest 0 by 60; class b rest 0 by 2 off;", 2);
        takesDays("loop 13;loop 22;shift 1;end;end;", 3);
        gives("1 and 13 times 23: 300", x.live(0), 300);
        gives("no step was come to then", x.lived(4), 0);
        gives("shifts", x.lived(3), 13 * 22);
        takesDays("loop 13;loop 22;shift 1;end;end;loop 1;end;", 4);
        gives("300", x.live(0), 300);
        gives("a loop was come to then", x.lived(4), 1);
        takesDays("loop 13;loop 22;shift 1;end;end;stop;", 4);
        gives("300", x.live(0), 300);
        gives("a stop was come to then", x.lived(4), 1);
        takesDays("loop 99;shift 1;shift 1;shift 1;end;shift 1;", 5);
        gives("1, 297, 1: 299", x.live(0), 299);
        gives("not cut", x.lived(4), 0);
        takesDays("loop 99;shift 1;shift 1;shift 1;end;shift 1;shift 1;", 6);
        gives("300", x.live(0), 300);
        gives("not cut", x.lived(4), 0);
        takesDays("loop 99;shift 1;shift 1;shift 1;end;shift 1;shift 1;shift 1;", 7);
        gives("300", x.live(0), 300);
        gives("cut", x.lived(4), 1);
        gives("the last shift is not done", x.lived(3), 299);
        takesDays("loop 99;when on b;shift 1;end;shift 0;on b;end;", 5);
        gives("a test that fails is one, too, what is missed as well", x.live(0), 300);
        // 1; 3 in the first round, b is on then; 4 in each of 74 more.
        gives("missed: shift 0 in 75 rounds, on in 74 of them", x.lived(0), 75 + 74);
        gives("cut", x.lived(4), 1);
    }

    private void stops() {
        promise(45, "LIVED: how many STEPS were done");
        takes("class a rest 0 by 60;", 1);
        takesDays("loop 9;shift 1;stop;shift 1;end;", 4);
        gives("a stop is one, and ends all", x.live(0), 3);
        allAre("then", "1/60+");
        gives("not cut", x.lived(4), 0);
        takesDays("when on a;shift 1;end;", 2);
        gives("what is left of a loop is none of the next days", x.live(0), 2);
        gives("a test's steps are done once", x.lived(3), 1);
        takesDays("loop 2;shift 1;end;", 2);
        gives("nor of a loop in its place", x.live(0), 3);
        takesDays("", 0);
        gives("days of no step", x.live(0), 0);
        for (int what = 0; what <= 4; what++) {
            gives("lived " + what, x.lived(what), 0);
        }
    }

    private void live() {
        term("LIVED by a seed (0 to 9,999): all is as it is then.");
        takes("odds 3; class a rest 0 by 2; class b rest 0 by 3 off;", 2);
        takesDays("off a;on b;shift 5;split b 2;", 4);
        gives("live", x.live(9999), 4);
        allAre("then", "1/2- 2/6+ 5/6+");
        gives("again", x.live(0), 4);
        allAre("then", "0/2- 1/12+ 4/6+ 7/12+");
        promise(45, "(1; 6: no DAYS).");
        for (int seed : new int[] {-1, 10000, FAR[0], FAR[1]}) {
            refused("no days, seed " + seed, x.live(seed), 1);
        }
        refused("no days", x.live(0), 6);
        refused("no days", x.live(9999), 6);
        takesDays("any;", 1);
        refused("seed -1", x.live(-1), 1);
        refused("seed 10,000", x.live(10000), 1);
        gives("seed 0", x.live(0), 1);
        gives("seed 9,999", x.live(9999), 1);
    }

    private void lived() {
        promise(46, "Of live() latest with STATUS 0, what 0: MISSED, 1: how many became ON, 2: OFF (by on, off, any), 3: SHIFTS, 4: 1 if a STEP was come to when 300 had been done, else 0");
        takes("odds 16; class a rest 0 by 2; class b rest 0 by 3 off;", 2);
        takesDays("off a;on a;on b;off b;off a;split b 2;shift 0;shift 9;shift 9;any;", 10);
        gives("live", x.live(0), 10);
        // Both draws of seed 0: 1 by 3 is 1, b; it is off, and becomes on.
        long[] came = {1, 3, 3, 2, 0};
        for (int what = 0; what <= 4; what++) {
            gives("lived " + what, x.lived(what), came[what]);
        }
        refused("a seed that can't be", x.live(-1), 1);
        does("a mean", x.mean(0, 20));
        gives("is not lived", x.lived(1), 3);
        x.mark();
        x.undo();
        takes("", 0);
        refused("no days", x.live(0), 6);
        gives("still", x.lived(1), 3);
        takesDays("any;", 1);
        x.live(0);
        long[] anew = {1, 0, 0, 0, 0};
        for (int what = 0; what <= 4; what++) {
            gives("counted anew " + what, x.lived(what), anew[what]);
        }
        takesDays("loop 99;shift 1;shift 1;shift 1;shift 1;end;", 5);
        x.live(0);
        gives("cut", x.lived(4), 1);
        takesDays("stop;", 1);
        x.live(0);
        for (int what = 0; what <= 4; what++) {
            gives("counted anew " + what, x.lived(what), 0);
        }
        promise(46, "(1; 6: there was none).");
        for (int what : new int[] {-1, 5, FAR[0], FAR[1]}) {
            refused("lived " + what, x.lived(what), 1);
        }
        refused("there was none", x.lived(0), 6);
        takesDays("any;", 1);
        x.mean(0, 1);
        refused("a mean is none", x.lived(4), 6);
        x.live(-1);
        refused("one that was refused is none", x.lived(4), 6);
        x.live(0);
        gives("there was one", x.lived(4), 0);
        for (int what : new int[] {-1, 5}) {
            refused("lived " + what, x.lived(what), 1);
        }
    }

    private void mean() {
        promise(47, "The FRACTION is the mean of how many CLASSES are ON behind the DAYS, by so many seeds (1 to 20) from one on (1: the last above 9,999, too; 6: no DAYS); all stays as it is.");
        int[][] wrong1 = {{-1, 1}, {10000, 1}, {0, 0}, {0, 21}, {0, -1}, {9999, 2}, {9980, 21}, {9981, 20}, {FAR[0], 1},
            {FAR[1], 1}, {0, FAR[0]}, {0, FAR[1]}, {FAR[1], FAR[1]}};
        for (int[] w : wrong1) {
            refused("mean " + w[0] + " " + w[1], x.mean(w[0], w[1]), 1);
        }
        refused("no days", x.mean(0, 1), 6);
        takes("odds 8; class a rest 0 by 2; class b rest 0 by 3 off; class c rest 0 by 5;", 3);
        takesDays("", 0);
        fraction("two stay on", x.mean(0, 20), 2, 1);
        takesDays("any;split a 2;", 2);
        int[][] spans = {{0, 1}, {0, 20}, {9999, 1}, {9980, 20}, {9998, 2}, {4321, 7}};
        for (int[] span : spans) {
            int sum = 0;
            for (int seed = span[0]; seed < span[0] + span[1]; seed++) {
                int first = next(seed);
                boolean isSwitch = next(first) / 8 % 16 < 8;
                int set = 5 ^ (isSwitch ? 1 << (first / 8 % 3) : 0);
                sum += Integer.bitCount(set) + (set & 1);
            }
            does("mean " + span[0] + " " + span[1], x.mean(span[0], span[1]));
            due("top by bottom", x.top() * span[1], sum * x.bottom());
        }
        allAre("still", "0/2+ 0/3- 0/5+");
        refused("nothing was lived", x.lived(0), 6);
        for (int[] w : wrong1) {
            refused("mean " + w[0] + " " + w[1], x.mean(w[0], w[1]), 1);
        }
        takesDays("off a;off b;off c;", 3);
        fraction("none is on", x.mean(0, 20), 0, 1);
    }

    private void marks() {
        term("MARKS, at most 3: the SYSTEM with all that became of it, the DAYS are kept as they are; all is taken back to the latest MARK, which is gone then.");
        takes("odds 5; class a rest 0 by 2; class b rest 1 by 3 off;", 2);
        takesDays("on b;", 1);
        x.add(4, 5);
        gives("one", x.mark(), 1);
        x.rule(6);
        x.split(0, 2);
        gives("two", x.mark(), 2);
        takes("", 0);
        gives("three", x.mark(), 3);
        put("0/1+");
        refused("four", x.mark(), 4);
        gives("to the third", x.undo(), 2);
        allAre("then", "");
        refused("there were no days", x.live(0), 6);
        gives("to the second", x.undo(), 1);
        allAre("then", "0/4+ 1/3- 4/5+ 2/4+");
        gives("odds", x.told(1), 6);
        gives("there were days", x.live(0), 1);
        gives("b", x.told(2), 15);
        gives("to the first", x.undo(), 0);
        allAre("then", "0/2+ 1/3- 4/5+");
        gives("odds", x.told(1), 5);
        gives("there were days", x.live(0), 1);
        takesDays("off a;off b;", 2);
        refused("none is left", x.undo(), 6);
        gives("there may be three again", x.mark(), 1);
        gives("there may be three again", x.mark(), 2);
        gives("there may be three again", x.mark(), 3);
        refused("four", x.mark(), 4);
    }

    private void markCalls() {
        promise(48, "A MARK more: how many there are (4).");
        gives("one of nothing", x.mark(), 1);
        gives("two", x.mark(), 2);
        put("0/2+");
        gives("three", x.mark(), 3);
        x.turn(0);
        refused("four", x.mark(), 4);
        allAre("still", "0/2-");
        gives("the third was not touched", x.undo(), 2);
        allAre("then", "0/2+");
        gives("three again", x.mark(), 3);
        promise(49, "All is taken back to the latest MARK: how many there are left (6).");
        refused("none", x.undo(), 6);
        put("0/2+");
        refused("none, either", x.undo(), 6);
        allAre("still", "0/2+");
        x.mark();
        takesDays("shift 1;", 1);
        gives("live", x.live(0), 1);
        row(0, 7);
        fraction("weight", x.weight(), 1, 2);
        fault("odds 3;!", 1, 7);
        feed("odds 3;");
        x.drop(0);
        gives("back", x.undo(), 0);
        allAre("the system", "0/2+");
        refused("there were no days", x.live(0), 6);
        rowIs(0, 7);
        due("the fraction is none of it", x.bottom(), 2);
        due("nor the fault", x.fault(1), 7);
        gives("nor what was lived", x.lived(3), 1);
        gives("nor the tape", x.system(7), 0);
        gives("odds", x.told(1), 3);
    }
}
