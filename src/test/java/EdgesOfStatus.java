import java.util.function.Consumer;
import java.util.function.ToLongFunction;

/** The order in which STATUS is decided, that a refused call changes nothing, and that what is asked changes nothing. */
final class EdgesOfStatus extends Bench {
    private static final String WIDE = "odds 3; class a rest 0 by 60; class b rest 1 by 59; class c rest 2 by 58; class d rest 0 by 1 off; class e rest 0 by 30;";

    @Override
    void run() {
        order();
        zeroElse();
        fullOrder();
        nothingChanges();
        nothingChangesWithNine();
        askingChangesNothing();
        manyCalls();
        none();
    }

    private void order() {
        term("STATUS of a call is the first of these that holds: 1 a number that can't be; no such TRAY, CLASS. 2 the TRAY is MISSING. 3 a place that the TRAY has not, or too few numbers. 4 one too many. 5 a number in a TRAY that can't be. 7 it can't be (SPAN is above 5,040, too, ahead of 6). 6 there is none such. 8 TRAYS are of unlike sorts. 9 a FAULT. 0 else.");
        takes(WIDE, 5);
        refused("1 ahead of 2", x.choices(0, 7, 0), 1);
        refused("1 ahead of 2", x.choiceAt(0, 1, 0, 1), 1);
        refused("1 ahead of 2", x.pour(0, -1, 1, 0, 0), 1);
        refused("2 ahead of 3", x.read(0, 60), 2);
        refused("2 ahead of 3", x.write(0, -1, 0), 2);
        refused("2 ahead of 3", x.choices(0, 6, 0), 2);
        refused("2 ahead of 3 and 8", x.pour(0, 60, 0, 60, 60), 2);
        x.tray(0, 0, 2);
        refused("3 ahead of 5", x.choices(0, 3, 0), 3);
        x.write(0, 1, 1);
        refused("5, though the last can be", x.choices(0, 2, 0), 5);
        row(1, 60, 60, 60, 0);
        refused("5 ahead of 7", x.choices(1, 4, 0), 5);
        refused("7 ahead of 6", x.choiceAt(1, 3, 0, 0), 7);
        refused("8 ahead of 3, in pour alone", x.pour(0, 9, 1, 9, 9), 8);
        refused("1 ahead of 7", x.alone(5), 1);
        refused("1 ahead of 7", x.tree(-1), 1);
        refused("1 ahead of 7", x.leafOf(10000), 1);
        refused("1 ahead of 7", x.game(3), 1);
        refused("1 ahead of 7", x.moveOf(0), 1);
        refused("1 ahead of 7", x.uncaught(0, 6), 1);
        refused("1 ahead of 7", x.spread(1), 1);
        refused("1 ahead of 7", x.join(0, 8), 1);
        refused("7 ahead of 6", x.alone(3), 7);
        refused("7 ahead of 6", x.gapAt(-1), 7);
        refused("7 ahead of 6: 60 by 7, and there are no others", x.join(0, 7), 7);
        refused("1 ahead of 6", x.meet(0, 0), 1);
        refused("1 ahead of 6", x.tightest(-1), 1);
        refused("1 ahead of 6", x.live(10000), 1);
        refused("1 ahead of 6", x.lived(5), 1);
        refused("1 ahead of 6", x.mean(0, 0), 1);
        feed("!");
        refused("1 ahead of 9", x.system(21), 1);
        refused("1 ahead of 9", x.days(-1), 1);
        refused("9", x.days(1), 9);
        gives("0 else", x.told(0), 5);
    }

    private void goodBehindBad(String call, Consumer<ResidueCover> made) {
        rich();
        x.turn(0);
        x.turn(1);
        refused("turn", x.turn(99), 1);
        made.accept(x);
        due("status behind " + call, x.status(), 0);
    }

    private void zeroElse() {
        term("0 else.");
        goodBehindBad("tray", c -> c.tray(0, 0, 1));
        goodBehindBad("write", c -> c.write(1, 0, 1));
        goodBehindBad("read", c -> c.read(1, 0));
        goodBehindBad("pour", c -> c.pour(0, 0, 0, 1, 1));
        goodBehindBad("system", c -> c.system(31));
        goodBehindBad("days", c -> c.days(0));
        for (int i = 0; i < 8; i++) {
            int what = i;
            goodBehindBad("told", c -> c.told(what));
            goodBehindBad("classOf", c -> c.classOf(0, what % 3));
            goodBehindBad("tree", c -> c.tree(what % 4));
            goodBehindBad("lived", c -> c.lived(what % 5));
        }
        goodBehindBad("caught", c -> c.caught(0));
        goodBehindBad("tightest", c -> c.tightest(0));
        goodBehindBad("turn", c -> c.turn(0));
        goodBehindBad("add", c -> c.add(0, 1));
        goodBehindBad("drop", c -> c.drop(0));
        goodBehindBad("move", c -> c.move(0, 0));
        goodBehindBad("shift", c -> c.shift(0));
        goodBehindBad("rule", c -> c.rule(0));
        goodBehindBad("split", c -> c.split(3, 2));
        goodBehindBad("gaps", ResidueCover::gaps);
        goodBehindBad("weight", ResidueCover::weight);
        goodBehindBad("alone", c -> c.alone(3));
        goodBehindBad("needless", ResidueCover::needless);
        goodBehindBad("fewest", ResidueCover::fewest);
        goodBehindBad("fewestSet", ResidueCover::fewestSet);
        goodBehindBad("meet", c -> c.meet(0, 1));
        goodBehindBad("thick", ResidueCover::thick);
        goodBehindBad("ask", ResidueCover::ask);
        goodBehindBad("turnsBy", ResidueCover::turnsBy);
        goodBehindBad("leafOf", c -> c.leafOf(0));
        goodBehindBad("choices", c -> c.choices(0, 2, 2));
        goodBehindBad("choiceAt", c -> c.choiceAt(0, 2, 2, 0));
        goodBehindBad("game", c -> c.game(0));
        goodBehindBad("moveOf", c -> c.moveOf(1));
        goodBehindBad("uncaught", c -> c.uncaught(0, 0));
        goodBehindBad("live", c -> c.live(0));
        goodBehindBad("mean", c -> c.mean(0, 1));
        goodBehindBad("mark", ResidueCover::mark);
        goodBehindBad("undo", ResidueCover::undo);
        zeroElseOfOthers();
    }

    /** Those that the rich object has no place for. */
    private void zeroElseOfOthers() {
        anew();
        put("0/2+ 1/2+");
        x.tray(0, 0, 4);
        refused("turn", x.turn(99), 1);
        gives("spread", x.spread(2), 4);
        refused("turn", x.turn(99), 1);
        gives("gapAt", x.gapAt(0), 1);
        refused("turn", x.turn(99), 1);
        gives("copySystem", x.copySystem(0), 2);
        refused("turn", x.turn(99), 1);
        gives("join", x.join(0, 2), 1);
    }

    private void fullOrder() {
        term("4 one too many.");
        takes(classes(12), 12);
        refused("1 ahead of 4", x.add(60, 1), 1);
        refused("1 ahead of 4", x.split(12, 2), 1);
        refused("1 ahead of 4", x.split(0, 8), 1);
        refused("4", x.add(0, 1), 4);
        refused("4", x.split(0, 2), 4);
        x.spread(60);
        refused("4 ahead of 7", x.split(0, 2), 4);
        x.drop(0);
        refused("7", x.split(0, 2), 7);
        refused("4 ahead of 7", x.split(0, 3), 4);
    }

    /** An object that has something of everything, the same each time. */
    private ResidueCover rich() {
        anew();
        takes(WIDE, 5);
        takesDays("shift 2;on d;off d;any;shift 0;", 5);
        x.mark();
        x.turn(4);
        x.turn(3);
        x.turn(0);
        x.turn(1);
        fraction("weight", x.weight(), 59, 58);
        takesDays("loop 2;shift 1;end;", 2);
        x.mark();
        x.live(7);
        x.turn(0);
        x.turn(1);
        row(0, 60, 60, 60, 61, 0);
        x.tray(1, 1, 2);
        x.write(1, 1, -9);
        x.tray(2, 0, 0);
        daysFault("on zz;", 3, 3);
        feed("odds 7;class q rest 4 by 5 off;!");
        return x;
    }

    /** All that can be seen of the object, at last by calls that change it. */
    private String seen() {
        StringBuilder s = new StringBuilder(all());
        s.append("; odds ").append(x.told(1)).append("; fraction ").append(x.top()).append(' ').append(x.bottom());
        s.append("; fault ").append(x.fault(0)).append(' ').append(x.fault(1)).append("; lived");
        for (int what = 0; what <= 4; what++) {
            s.append(' ').append(x.lived(what));
        }
        for (int t = 0; t < 4; t++) {
            s.append("; tray");
            for (int i = 0; i < 7; i++) {
                s.append(' ').append(x.read(t, i)).append('/').append(x.status());
            }
        }
        s.append("; live ").append(x.live(3)).append(' ').append(all());
        s.append("; feed ").append(x.feed(0, 0, 0, 0, 0));
        s.append("; undo ").append(x.undo()).append(' ').append(all()).append(" live ").append(x.live(3)).append(' ').append(all());
        s.append("; undo ").append(x.undo()).append(' ').append(all()).append(" live ").append(x.live(3)).append(' ').append(all());
        s.append("; undo ").append(x.undo());
        s.append("; system ").append(x.system(31)).append(' ').append(all()).append(" odds ").append(x.told(1));
        return s.toString();
    }

    private void changesNothing(String call, int status, ToLongFunction<ResidueCover> made) {
        rich();
        String want = seen();
        rich();
        long got = made.applyAsLong(x);
        refused(call, got, status);
        String then = seen();
        if (!then.equals(want)) {
            due(call + " left\n  " + then + "\n  in place of\n  " + want + "\n  changed", 1, 0);
        }
    }

    private static long none(boolean answer) {
        return answer ? 1 : -1;
    }

    private void nothingChanges() {
        term("With another STATUS than 0 a call gives NONE, or false, and changes nothing else");
        changesNothing("tray", 1, c -> none(c.tray(1, 4, 2)));
        changesNothing("tray", 1, c -> none(c.tray(1, 0, 61)));
        changesNothing("write", 1, c -> none(c.write(4, 0, 5)));
        changesNothing("write", 2, c -> none(c.write(3, 0, 5)));
        changesNothing("write", 3, c -> none(c.write(1, 2, 5)));
        changesNothing("read", 3, c -> c.read(1, 2));
        changesNothing("pour", 1, c -> none(c.pour(0, 0, 0, 1, -1)));
        changesNothing("pour", 2, c -> none(c.pour(0, 0, 3, 0, 0)));
        changesNothing("pour", 8, c -> none(c.pour(0, 0, 1, 0, 1)));
        changesNothing("pour", 3, c -> none(c.pour(0, 0, 0, 1, 5)));
        changesNothing("system", 1, c -> c.system(41));
        changesNothing("system", 1, c -> c.system(-1));
        changesNothing("days", 1, c -> c.days(41));
        changesNothing("told", 1, c -> c.told(8));
        changesNothing("told", 7, c -> c.told(3));
        changesNothing("classOf", 1, c -> c.classOf(0, 3));
        changesNothing("caught", 1, c -> c.caught(10000));
        changesNothing("tightest", 1, c -> c.tightest(10000));
        changesNothing("turn", 1, c -> c.turn(5));
        changesNothing("add", 1, c -> c.add(0, 61));
        changesNothing("drop", 1, c -> c.drop(5));
        changesNothing("move", 1, c -> c.move(0, 60));
        changesNothing("shift", 1, c -> none(c.shift(60)));
        changesNothing("spread", 1, c -> c.spread(61));
        changesNothing("spread", 7, c -> c.spread(2));
        changesNothing("split", 1, c -> c.split(0, 8));
        changesNothing("split", 7, c -> c.split(0, 2));
        changesNothing("join", 1, c -> c.join(0, 8));
        changesNothing("join", 7, c -> c.join(0, 7));
        changesNothing("join", 6, c -> c.join(0, 2));
        changesNothing("rule", 1, c -> none(c.rule(17)));
        changesNothing("meet", 1, c -> c.meet(0, 0));
        changesNothing("choices", 1, c -> c.choices(0, 7, 0));
        changesNothing("choices", 2, c -> c.choices(3, 1, 0));
        changesNothing("choices", 3, c -> c.choices(2, 1, 0));
        changesNothing("choices", 5, c -> c.choices(0, 5, 0));
        changesNothing("choices", 7, c -> c.choices(0, 3, 0));
        changesNothing("choiceAt", 6, c -> c.choiceAt(0, 1, 0, 0));
        changesNothing("copySystem", 3, c -> c.copySystem(0));
        changesNothing("copySystem", 2, c -> c.copySystem(3));
        changesNothing("copySystem", 1, c -> c.copySystem(4));
        changesNothing("live", 1, c -> c.live(10000));
        changesNothing("lived", 1, c -> c.lived(5));
        changesNothing("mean", 1, c -> none(c.mean(9999, 2)));
        wideOnes();
    }

    private void wideOnes() {
        changesNothing("gapAt", 7, c -> c.gapAt(0));
        changesNothing("gaps", 7, c -> none(c.gaps()));
        changesNothing("weight", 7, c -> none(c.weight()));
        changesNothing("alone", 7, c -> none(c.alone(0)));
        changesNothing("needless", 7, ResidueCover::needless);
        changesNothing("fewest", 7, ResidueCover::fewest);
        changesNothing("fewestSet", 7, ResidueCover::fewestSet);
        changesNothing("thick", 7, ResidueCover::thick);
        changesNothing("ask", 7, ResidueCover::ask);
        changesNothing("turnsBy", 7, ResidueCover::turnsBy);
        changesNothing("tree", 7, c -> c.tree(0));
        changesNothing("leafOf", 7, c -> c.leafOf(0));
        changesNothing("game", 7, c -> c.game(2));
        changesNothing("moveOf", 7, c -> c.moveOf(2));
        changesNothing("uncaught", 7, c -> none(c.uncaught(5, 1)));
    }

    private void nothingChangesWithNine() {
        term("(but system(), days() with 9 the tape, and what fault() tells).");
        takes(FIVE, 5);
        takesDays("off a;shift 1;", 2);
        fraction("gaps", x.gaps(), 0, 1);
        String before = all();
        feed("odds 3;class q rest 4 by 5;class q rest 4 by 5;");
        refused("system", x.system(47), 9);
        allAre("behind it", before);
        gives("odds", x.told(1), 8);
        due("the fraction", x.bottom(), 1);
        due("fault tells of it", x.fault(0), 3);
        due("and of its place", x.fault(1), 33);
        refused("the tape is empty", x.system(1), 1);
        feed("off b;off c;off z;");
        refused("days", x.days(18), 9);
        allAre("behind it", before);
        due("fault tells of it", x.fault(0), 3);
        due("and of its place", x.fault(1), 16);
        refused("the tape is empty", x.days(1), 1);
        gives("the days are the old ones", x.live(0), 2);
        allAre("behind them", "1/2- 1/3+ 2/4+ 0/6+ 8/12+");
    }

    private void sameBehind(String call, Consumer<ResidueCover> asked) {
        rich();
        x.turn(0);
        x.turn(1);
        long top = x.top();
        String want = seen();
        rich();
        x.turn(0);
        x.turn(1);
        asked.accept(x);
        due("status behind " + call, x.status(), 0);
        // What tells a fraction may do just that.
        String then = seen().replaceFirst("fraction -?\\d+ \\d+", "");
        if (!then.equals(want.replaceFirst("fraction -?\\d+ \\d+", ""))) {
            due(call + " left\n  " + then + "\n  in place of\n  " + want + "\n  changed", 1, 0);
        }
        due("top was told", top, 59);
    }

    private void askingChangesNothing() {
        term("All ahead is as all is now; nothing changes by it.");
        sameBehind("told", c -> c.told(6));
        sameBehind("told", c -> c.told(4));
        sameBehind("caught", c -> c.caught(9));
        sameBehind("tightest", c -> c.tightest(9));
        sameBehind("gaps", ResidueCover::gaps);
        sameBehind("weight", ResidueCover::weight);
        sameBehind("alone", c -> c.alone(2));
        sameBehind("needless", ResidueCover::needless);
        sameBehind("fewest", ResidueCover::fewest);
        sameBehind("fewestSet", ResidueCover::fewestSet);
        sameBehind("meet", c -> c.meet(0, 1));
        sameBehind("thick", ResidueCover::thick);
        sameBehind("ask", ResidueCover::ask);
        sameBehind("turnsBy", ResidueCover::turnsBy);
        sameBehind("tree", c -> c.tree(2));
        sameBehind("leafOf", c -> c.leafOf(9));
        sameBehind("choices", c -> c.choices(0, 2, 2));
        sameBehind("choiceAt", c -> c.choiceAt(0, 2, 2, 1));
        sameBehind("game", c -> c.game(2));
        sameBehind("moveOf", c -> c.moveOf(2));
        sameBehind("uncaught", c -> c.uncaught(5, 1));
        sameBehind("mean", c -> c.mean(0, 20));
    }

    private void manyCalls() {
        term("An object is used for at most 512 calls after it has been made");
        int calls = 0;
        for (int i = 0; i < 42; i++) {
            due("add", x.add(0, 1 + i % 60), 0);
            due("status", x.status(), 0);
            due("modulus", x.classOf(0, 1), 1 + i % 60);
            due("mark", x.mark(), 1);
            due("turn", x.turn(0), 0);
            due("undo", x.undo(), 0);
            due("set", x.told(2), 1);
            due("feed", x.feed(0, 0, 0, 0, 0), 20);
            due("drop", x.drop(0), 0);
            due("days", x.days(0), 0);
            due("mark", x.mark(), 1);
            due("undo", x.undo(), 0);
            calls += 12;
        }
        for (; calls < 511; calls++) {
            due("add", x.add(0, 2), calls - 504);
        }
        due("the 512th", x.told(0), 7);
    }

    private void none() {
        term("The constants: `NONE = -1`: None.");
        due("NONE", ResidueCover.NONE, -1);
    }
}
