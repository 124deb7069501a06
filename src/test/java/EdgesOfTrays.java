/** Edges of a new object, of STATUS and FRACTION, and of TRAYS: promises 1 to 8. */
final class EdgesOfTrays extends Bench {
    @Override
    void run() {
        traysAtFirst();
        rows();
        newObject();
        statusAndFraction();
        laying();
        writing();
        reading();
        pouring();
        pourOrder();
    }

    private void traysAtFirst() {
        term("TRAYS 0 to 3 are MISSING at first");
        for (int t = 0; t < 4; t++) {
            refused("read of tray " + t, x.read(t, 0), 2);
            does("tray " + t, x.tray(t, 0, 1));
            gives("read of tray " + t, x.read(t, 0), 0);
        }
        for (int t : new int[] {-1, 4, FAR[0], FAR[1]}) {
            refused("no tray " + t, x.read(t, 0), 1);
        }
    }

    private void rows() {
        term(", or rows of 0 to 60 numbers");
        does("0 numbers", x.tray(0, 0, 0));
        refused("place 0 of none", x.read(0, 0), 3);
        does("60 numbers", x.tray(0, 0, 60));
        does("the last", x.write(0, 59, 7));
        gives("the last", x.read(0, 59), 7);
        refused("behind the last", x.read(0, 60), 3);
        refused("61 numbers", x.tray(0, 0, 61), 1);
        refused("-1 numbers", x.tray(0, 0, -1), 1);
        gives("the row is still there", x.read(0, 59), 7);
        term("of 8 bits (sort 0), 16 (1), 32 (2) or 64 (3).");
        for (int sort = 0; sort < 4; sort++) {
            long most = Long.MAX_VALUE >> (64 - (8 << sort));
            does("tray of sort " + sort, x.tray(sort, sort, 4));
            x.write(sort, 0, most);
            x.write(sort, 1, most + 1);
            x.write(sort, 2, -most - 1);
            x.write(sort, 3, -most - 2);
            rowIs(sort, most, -most - 1, -most - 1, most);
        }
        refused("sort 4", x.tray(0, 4, 4), 1);
        refused("sort -1", x.tray(0, -1, 4), 1);
    }

    private void newObject() {
        promise(1, "A SYSTEM without CLASSES; ODDS 4; no DAYS, MARKS; TRAYS are MISSING; an empty tape; the FRACTION 0 by 1; STATUS 0.");
        due("status", x.status(), 0);
        due("top", x.top(), 0);
        due("bottom", x.bottom(), 1);
        gives("classes", x.told(0), 0);
        refused("class 0", x.classOf(0, 0), 1);
        gives("odds", x.told(1), 4);
        refused("no days to live", x.live(0), 6);
        refused("no days for a mean", x.mean(0, 1), 6);
        refused("no mark", x.undo(), 6);
        for (int t = 0; t < 4; t++) {
            refused("tray " + t, x.read(t, 0), 2);
        }
        refused("one byte of an empty tape", x.system(1), 1);
        gives("no byte of it", x.system(0), 0);
        due("the first twenty", x.feed(0, 0, 0, 0, 0), 20);
        x = new ResidueCover();
        ResidueCover other = new ResidueCover();
        x.add(0, 2);
        x.tray(0, 0, 1);
        x.mark();
        due("another object has none of it", other.told(0), 0);
        due("another object's tray", other.read(0, 0), -1);
        due("another object's marks", other.mark(), 1);
    }

    private void statusAndFraction() {
        promise(2, "STATUS of the latest call that has one.");
        refused("turn", x.turn(0), 1);
        due("asked again", x.status(), 1);
        gives("told", x.told(0), 0);
        refused("undo", x.undo(), 6);
        due("asked again", x.status(), 6);
        term("status(), top(), bottom(), feed(), fault() have none.");
        refused("undo", x.undo(), 6);
        x.top();
        x.bottom();
        x.feed(1, 2, 3, 4, 5);
        x.fault(0);
        x.fault(1);
        x.fault(2);
        due("still", x.status(), 6);
        for (int i = 0; i < 44; i++) {
            x.feed(0, 0, 0, 0, 0);
        }
        due("a feed too many", x.feed(0, 0, 0, 0, 0), -1);
        due("still", x.status(), 6);
        promise(3, "The top of the FRACTION told latest.");
        put("0/2+ 0/3+");
        fraction("weight", x.weight(), 5, 6);
        fraction("gaps", x.gaps(), 1, 3);
        refused("alone", x.alone(2), 1);
        due("top stays behind a refusal", x.top(), 1);
        x.told(4);
        due("top stays behind what tells none", x.top(), 1);
        promise(4, "Its bottom, above 0.");
        put("0/1+");
        fraction("gaps", x.gaps(), 0, 1);
        refused("alone", x.alone(2), 1);
        due("bottom stays behind a refusal", x.bottom(), 1);
        term("FRACTIONS are told by top() and bottom() without a common divisor, the bottom above 0; 0 is 0 by 1.");
        put("0/4+ 2/4+ 1/12+");
        fraction("7 by 12", x.weight(), 7, 12);
        fraction("5 by 12", x.gaps(), 5, 12);
        x.turn(2);
        fraction("2 by 4 is 1 by 2", x.gaps(), 1, 2);
        put("1/2+");
        fraction("4 by 4 is 1 by 1", x.weight(), 1, 1);
        fraction("0 by 4 is 0 by 1", x.gaps(), 0, 1);
        fraction("0 by 4 to the fifth", x.uncaught(5, 5), 0, 1);
        fraction("2 by 4 alone", x.alone(3), 1, 2);
    }

    private void laying() {
        promise(5, "A TRAY is a row of so many 0s (1).");
        does("tray", x.tray(2, 3, 3));
        rowIs(2, 0, 0, 0);
        x.write(2, 0, -5);
        x.write(2, 2, 5);
        refused("no tray 4", x.tray(4, 3, 3), 1);
        refused("no tray -1", x.tray(-1, 3, 3), 1);
        refused("a sort too many", x.tray(2, 4, 3), 1);
        refused("far too many", x.tray(2, 3, FAR[1]), 1);
        refused("far too few", x.tray(2, 3, FAR[0]), 1);
        rowIs(2, -5, 0, 5);
        does("laid again", x.tray(2, 3, 3));
        rowIs(2, 0, 0, 0);
        x.write(2, 2, 5);
        does("laid shorter", x.tray(2, 0, 2));
        refused("what was behind", x.read(2, 2), 3);
        does("laid longer", x.tray(2, 0, 4));
        rowIs(2, 0, 0, 0, 0);
    }

    private void writing() {
        promise(6, "A number comes to a place of a TRAY, cut to its sort (1, 2, 3).");
        refused("no tray -1", x.write(-1, 0, 1), 1);
        refused("no tray 4", x.write(4, 0, 1), 1);
        refused("missing", x.write(3, 0, 1), 2);
        refused("missing, and no place", x.write(3, -1, 1), 2);
        x.tray(3, 1, 2);
        does("first", x.write(3, 0, 65536 + 3));
        does("last", x.write(3, 1, 65535));
        rowIs(3, 3, -1);
        refused("behind the last", x.write(3, 2, 1), 3);
        refused("ahead of the first", x.write(3, -1, 1), 3);
        refused("far behind", x.write(3, FAR[1], 1), 3);
        refused("far ahead", x.write(3, FAR[0], 1), 3);
        rowIs(3, 3, -1);
    }

    private void reading() {
        promise(7, "The number in a place of a TRAY; STATUS tells NONE from -1 (1, 2, 3).");
        row(1, -1);
        gives("-1", x.read(1, 0), -1);
        refused("no tray -1", x.read(-1, 0), 1);
        gives("-1", x.read(1, 0), -1);
        refused("no tray 4", x.read(4, 0), 1);
        refused("missing", x.read(0, 0), 2);
        refused("missing, and no place", x.read(0, FAR[1]), 2);
        refused("behind the last", x.read(1, 1), 3);
        refused("ahead of the first", x.read(1, -1), 3);
        refused("far behind", x.read(1, FAR[1]), 3);
        refused("far ahead", x.read(1, FAR[0]), 3);
        gives("-1", x.read(1, 0), -1);
    }

    private void pouring() {
        promise(8, "So many numbers of a TRAY, from a place on, come to another one's (or its own) place on, as they were");
        row(0, 1, 2, 3, 4, 5);
        row(1, 6, 7, 8);
        does("to its own, behind", x.pour(0, 0, 0, 2, 3));
        rowIs(0, 1, 2, 1, 2, 3);
        does("to its own, ahead", x.pour(0, 1, 0, 0, 4));
        rowIs(0, 2, 1, 2, 3, 3);
        does("to its own place", x.pour(0, 0, 0, 0, 5));
        rowIs(0, 2, 1, 2, 3, 3);
        does("all of another", x.pour(1, 0, 0, 2, 3));
        rowIs(0, 2, 1, 6, 7, 8);
        rowIs(1, 6, 7, 8);
        does("none, from behind all to behind all", x.pour(0, 5, 1, 3, 0));
        does("none of an empty one", x.tray(2, 3, 0) && x.pour(2, 0, 0, 0, 0));
        rowIs(0, 2, 1, 6, 7, 8);
        x.tray(3, 3, 60);
        x.write(3, 0, 9);
        does("all but one of 60", x.pour(3, 0, 3, 1, 59));
        rowIs(3, 9, 9, 0);
    }

    private void pourOrder() {
        promise(8, "(1: below 0, too; 2; 8; 3; asked in this order).");
        row(0, 1, 2, 3);
        x.tray(1, 2, 3);
        x.tray(2, 3, 3);
        int[][] wrong1 = {{-1, 0, 0, 0, 0}, {4, 0, 0, 0, 0}, {0, 0, -1, 0, 0}, {0, 0, 4, 0, 0}, {0, -1, 2, 0, 1},
            {0, 0, 2, -1, 1}, {0, 1, 2, 1, -1}, {3, 0, 0, -1, 0}, {3, -1, 3, 0, 0}, {0, 0, 3, 0, -1}, {1, -1, 0, 0, 0}};
        for (int[] w : wrong1) {
            refused("a number below 0, no such tray", x.pour(w[0], w[1], w[2], w[3], w[4]), 1);
        }
        refused("from a missing one, behind all", x.pour(3, 99, 0, 99, 99), 2);
        refused("to a missing one", x.pour(1, 99, 3, 99, 99), 2);
        refused("unlike sorts, behind all", x.pour(0, 99, 1, 99, 99), 8);
        refused("unlike sorts, none", x.pour(1, 0, 0, 0, 0), 8);
        refused("one too many ahead", x.pour(0, 1, 2, 0, 3), 3);
        refused("one too many behind", x.pour(0, 0, 2, 1, 3), 3);
        refused("none, but one behind all ahead", x.pour(0, 4, 2, 0, 0), 3);
        refused("none, but one behind all behind", x.pour(0, 0, 2, 4, 0), 3);
        refused("more than an int tells, ahead", x.pour(0, FAR[1], 2, 0, FAR[1]), 3);
        refused("more than an int tells, behind", x.pour(0, 0, 2, FAR[1], 1), 3);
        rowIs(0, 1, 2, 3);
        rowIs(2, 0, 0, 0);
    }
}
