/** Edges of SPAN and GAPS, and of what is asked of what is caught: promises 26 to 38. */
final class EdgesOfCatching extends Bench {
    /** A span of 5,040 just, and the least one above it that there can be: 5,049 is 27 times 11 times 17. */
    private static final String GREATEST = "0/48+ 0/45+ 0/7+";
    private static final String TOO_GREAT = "0/27+ 0/33+ 0/51+";

    @Override
    void run() {
        spans();
        tooGreat();
        gapsOfSpan();
        gapAt();
        gaps();
        weight();
        alone();
        needless();
        fewest();
        fewestSet();
        meet();
        thickAndAsk();
        turnsBy();
        tree();
        treeCounts();
        leafOf();
    }

    private void spans() {
        term("SPAN: the least number that the MODULI of all CLASSES that are ON divide (1 without any)");
        gives("without classes", x.told(3), 1);
        put("0/4-");
        gives("without any that is on", x.told(3), 1);
        x.turn(0);
        gives("one", x.told(3), 4);
        put("0/6+");
        gives("4 and 6", x.told(3), 12);
        put("0/4+ 0/2+ 0/1+");
        gives("what divides it already", x.told(3), 12);
        put("0/59-");
        gives("off", x.told(3), 12);
        x.turn(5);
        gives("on", x.told(3), 708);
    }

    private void tooGreat() {
        term("what asks for it can't be if it is above 5,040.");
        put(GREATEST);
        gives("5,040", x.told(3), 5040);
        gives("gaps", x.told(4), 4140);
        fraction("gaps()", x.gaps(), 23, 28);
        gives("game", x.game(0), 4140);
        gives("leafOf", x.leafOf(1), 5040);
        anew();
        put(TOO_GREAT);
        asked(7);
        x.turn(2);
        gives("27 and 33", x.told(3), 297);
        anew();
        // Far above what a long tells.
        put("0/60+ 0/59+ 0/58+ 0/57+ 0/56+ 0/55+ 0/53+ 0/49+ 0/47+ 0/43+ 0/41+ 0/37+");
        asked(7);
        anew();
        put("0/60+ 0/59+ 0/58+ 0/1+");
        asked(7);
        x.turn(0);
        gives("59 and 58", x.told(3), 3422);
    }

    private void asked(int status) {
        for (int what = 3; what <= 5; what++) {
            refused("told " + what, x.told(what), status);
        }
        refused("gapAt", x.gapAt(0), status);
        refused("gaps", x.gaps(), status);
        refused("weight", x.weight(), status);
        refused("alone", x.alone(0), status);
        refused("needless", x.needless(), status);
        refused("fewest", x.fewest(), status);
        refused("fewestSet", x.fewestSet(), status);
        refused("thick", x.thick(), status);
        refused("ask", x.ask(), status);
        refused("turnsBy", x.turnsBy(), status);
        for (int what = 0; what <= 3; what++) {
            refused("tree " + what, x.tree(what), status);
        }
        refused("leafOf", x.leafOf(0), status);
        for (int n = 0; n <= 2; n++) {
            refused("game " + n, x.game(n), status);
        }
        refused("moveOf", x.moveOf(1), status);
        refused("uncaught", x.uncaught(0, 0), status);
    }

    private void gapsOfSpan() {
        term("GAPS: the numbers from 0 to SPAN less 1 that no CLASS catches. COVERED: there are none.");
        gives("without classes 0 is one", x.told(4), 1);
        gives("not covered", x.told(5), 0);
        put("1/2+");
        gives("0 is one, 2 is none of them", x.told(4), 1);
        refused("2", x.gapAt(1), 6);
        put("0/2-");
        gives("what is off catches none", x.told(4), 1);
        x.turn(1);
        gives("none", x.told(4), 0);
        gives("covered", x.told(5), 1);
        anew();
        put("0/60+");
        gives("59 of 60", x.told(4), 59);
        anew();
        put(GREATEST);
        // 7 leaves 4,320; of those 48 divides 90, 45 divides 96, both divide 6.
        gives("all but those of 7, 45 and 48", x.told(4), 4320 - (96 + 90 - 6));
        x.shift(59);
        gives("as many when they are shifted", x.told(4), 4320 - (96 + 90 - 6));
    }

    private void gapAt() {
        promise(26, "The k-th of the GAPS, from 0 on (7; 6: no such).");
        gives("0 without classes", x.gapAt(0), 0);
        refused("1 without classes", x.gapAt(1), 6);
        put("1/9+ 1/7+");
        gives("the first", x.gapAt(0), 0);
        gives("the last, SPAN less 1", x.gapAt(47), 62);
        for (int k : new int[] {-1, 48, 49, FAR[0], FAR[1]}) {
            refused("no such " + k, x.gapAt(k), 6);
        }
        anew();
        put("0/5+ 0/13+");
        gives("the last, beyond 63", x.gapAt(47), 64);
        gives("the one ahead", x.gapAt(46), 63);
        refused("behind it", x.gapAt(48), 6);
        put("0/1+");
        refused("covered", x.gapAt(0), 6);
        anew();
        put(GREATEST);
        gives("the first", x.gapAt(0), 1);
        gives("the last", x.gapAt(4139), 5039);
        refused("behind it", x.gapAt(4140), 6);
        put("0/11+");
        refused("above 5,040, and no such", x.gapAt(-1), 7);
    }

    private void gaps() {
        promise(27, "The FRACTION is GAPS by SPAN (7).");
        fraction("without classes", x.gaps(), 1, 1);
        put("0/60+");
        fraction("59 by 60", x.gaps(), 59, 60);
        put("0/1+");
        fraction("covered", x.gaps(), 0, 1);
        put("0/59+ 0/58+");
        refused("above 5,040, though covered", x.gaps(), 7);
        due("the fraction stays", x.top(), 0);
    }

    private void weight() {
        promise(28, "The FRACTION is 1 by each MODULUS of those ON, together (7).");
        fraction("without classes", x.weight(), 0, 1);
        put("0/60-");
        fraction("none is on", x.weight(), 0, 1);
        x.turn(0);
        fraction("1 by 60", x.weight(), 1, 60);
        anew();
        takes(classes(12), 12);
        fraction("twelve", x.weight(), 12, 1);
        anew();
        put(GREATEST);
        fraction("105 and 112 and 720 by 5,040", x.weight(), 937, 5040);
        put("0/11+");
        refused("above 5,040", x.weight(), 7);
        due("the fraction stays", x.bottom(), 5040);
    }

    private void alone() {
        promise(29, "The FRACTION is the part of all numbers by SPAN that a CLASS alone catches (1; 7; 6: it is OFF).");
        refused("no class 0", x.alone(0), 1);
        put("0/2+ 0/2+ 1/4+ 3/4-");
        fraction("two catch the same", x.alone(0), 0, 1);
        fraction("a quarter", x.alone(2), 1, 4);
        refused("off", x.alone(3), 6);
        for (int k : new int[] {-1, 4, FAR[0], FAR[1]}) {
            refused("no class " + k, x.alone(k), 1);
        }
        x.turn(0);
        refused("off", x.alone(0), 6);
        fraction("alone then", x.alone(1), 1, 2);
        anew();
        put("5/7+");
        fraction("one of one", x.alone(0), 1, 7);
        anew();
        put("0/9+ 0/7+");
        fraction("6 of 63", x.alone(0), 2, 21);
        fraction("8 of 63", x.alone(1), 8, 63);
        put("0/59- 0/58+ 0/57+");
        refused("above 5,040 comes ahead of off", x.alone(2), 7);
        refused("no class comes ahead of above 5,040", x.alone(5), 1);
    }

    private void needless() {
        term("NEEDLESS is a CLASS that is ON, all of whose numbers others that are ON catch, too.");
        put("0/2+ 0/2+ 1/4+ 3/4+ 1/2-");
        gives("each of two alike", x.needless(), 3);
        x.turn(4);
        gives("with all odd ones", x.needless(), 3 + 4 + 8 + 16);
        x.turn(2);
        gives("without 1 by 4", x.needless(), 3 + 8);
        anew();
        put("0/2+ 0/2+ 0/4- 1/4-");
        gives("not what is off, though two others catch all its numbers", x.needless(), 3);
        promise(30, "The set of CLASSES that are NEEDLESS (7).");
        gives("without classes", x.needless(), 0);
        put("0/2-");
        gives("off", x.needless(), 0);
        anew();
        put("0/2+ 1/3+ 1/6-");
        gives("none", x.needless(), 0);
        anew();
        takes(classes(12), 12);
        gives("all twelve", x.needless(), 4095);
        anew();
        put(GREATEST);
        gives("none by 5,040", x.needless(), 0);
        put("0/42+");
        gives("0 by 42", x.needless(), 8);
        put("0/11+");
        refused("above 5,040", x.needless(), 7);
    }

    private void fewest() {
        term("FEWEST: the fewest CLASSES that are ON that catch all that is caught now; of several sets the least as a number (1 for CLASS 0 ..).");
        put("0/2+ 1/2+ 0/1-");
        gives("the one that catches all is off", x.fewestSet(), 3);
        x.turn(2);
        gives("one, though its number is greater than theirs", x.fewestSet(), 4);
        anew();
        // 14, 19 and 22 catch what all five do.
        put("4/6+ 2/3+ 1/3+ 3/6+ 1/2+");
        gives("the least as a number", x.fewestSet(), 14);
        anew();
        put("0/6+ 0/3+ 0/2-");
        gives("what is off need not be caught", x.fewestSet(), 2);
        promise(31, "FEWEST: how many (7).");
        gives("without classes", x.fewest(), 0);
        put("0/2-");
        gives("none is on", x.fewest(), 0);
        anew();
        takes(classes(12), 12);
        gives("one of twelve", x.fewest(), 1);
        anew();
        put("0/12+ 1/12+ 2/12+ 3/12+ 4/12+ 5/12+ 6/12+ 7/12+ 8/12+ 9/12+ 10/12+ 11/12+");
        gives("twelve of twelve", x.fewest(), 12);
        x.turn(11);
        gives("eleven", x.fewest(), 11);
        anew();
        put(TOO_GREAT);
        refused("above 5,040", x.fewest(), 7);
    }

    private void fewestSet() {
        promise(32, "FEWEST: the set (7).");
        gives("without classes", x.fewestSet(), 0);
        put("0/2-");
        gives("none is on", x.fewestSet(), 0);
        anew();
        takes(classes(12), 12);
        gives("the first of twelve", x.fewestSet(), 1);
        x.turn(0);
        gives("the second", x.fewestSet(), 2);
        anew();
        put("0/12+ 1/12+ 2/12+ 3/12+ 4/12+ 5/12+ 6/12+ 7/12+ 8/12+ 9/12+ 10/12+ 11/12+");
        gives("twelve of twelve", x.fewestSet(), 4095);
        anew();
        put("0/48+ 0/24+ 0/45+ 0/15+ 0/7+ 0/21+ 0/16+");
        gives("by 5,040", x.fewestSet(), 8 + 16 + 2 + 64);
        put("0/11+");
        refused("above 5,040", x.fewestSet(), 7);
    }

    private void meet() {
        promise(33, "The least number that two CLASSES, ON or OFF, both would catch (1: one and itself, too; 6: none).");
        refused("no classes", x.meet(0, 1), 1);
        put("59/60+ 58/59- 0/2+ 1/2- 0/60+ 7/60+");
        gives("the farthest", x.meet(0, 1), 3539);
        gives("the other way", x.meet(1, 0), 3539);
        gives("0", x.meet(2, 4), 0);
        refused("even and odd", x.meet(2, 3), 6);
        refused("0 and 7 by 60", x.meet(4, 5), 6);
        gives("7 and 1 by 2, which is off", x.meet(5, 3), 7);
        refused("itself", x.meet(1, 1), 1);
        for (int k : new int[] {-1, 6, FAR[0], FAR[1]}) {
            refused("no class " + k, x.meet(k, 0), 1);
            refused("no class " + k, x.meet(0, k), 1);
            refused("no class and itself " + k, x.meet(k, k), 1);
        }
        put("0/1+ 0/1+");
        gives("by 1", x.meet(6, 7), 0);
        gives("by 1 and 60", x.meet(6, 0), 59);
    }

    private void thickAndAsk() {
        promise(34, "The most CLASSES that are ON by which one number is caught (7).");
        gives("without classes", x.thick(), 0);
        put("6/7+");
        gives("one", x.thick(), 1);
        put("0/2+ 0/3+");
        gives("three at 6", x.thick(), 3);
        anew();
        put("0/2+ 0/3+");
        gives("two at 0", x.thick(), 2);
        anew();
        put("0/2- 1/2+ 2/3+");
        gives("two at 5", x.thick(), 2);
        put("4/6+");
        gives("three never", x.thick(), 2);
        anew();
        takes(classes(12), 12);
        gives("twelve", x.thick(), 12);
        anew();
        put(TOO_GREAT);
        refused("above 5,040", x.thick(), 7);
        term("ASK: the least of the numbers from 0 to SPAN less 1 that the most CLASSES that are ON catch.");
        put("6/7+");
        gives("one catches 6", x.ask(), 6);
        put("0/7+");
        gives("one catches 0, one 6", x.ask(), 0);
        anew();
        put("0/2+ 0/3+");
        gives("two catch 0", x.ask(), 0);
        anew();
        put("1/2+ 2/3+");
        gives("5 is SPAN less 1", x.ask(), 5);
        put("1/6+");
        gives("1, two of three as at 5", x.ask(), 1);
        put("5/6-");
        gives("what is off does not count", x.ask(), 1);
        anew();
        put("47/48+ 44/45+ 6/7+");
        gives("5,039", x.ask(), 5039);
        promise(35, "ASK (7; 6: none is ON).");
        refused("without classes", x.ask(), 6);
        put("0/2-");
        refused("none is on", x.ask(), 6);
        x.turn(0);
        gives("0", x.ask(), 0);
        put("0/59+ 0/58+ 0/57+");
        refused("above 5,040", x.ask(), 7);
    }

    private void turnsBy() {
        promise(36, "The least n above 0 so that SHIFTED by n the same numbers are caught as now (7).");
        gives("without classes", x.turnsBy(), 1);
        put("0/60-");
        gives("none is on", x.turnsBy(), 1);
        x.turn(0);
        gives("60", x.turnsBy(), 60);
        put("30/60+");
        gives("30", x.turnsBy(), 30);
        put("15/30+ 0/59-");
        gives("15", x.turnsBy(), 15);
        anew();
        for (int rest = 0; rest < 7; rest++) {
            x.add(rest, 14);
            x.add(rest + 7, 14);
            gives("7, shifted by " + rest, x.turnsBy(), 7);
            x.drop(1);
            gives("14", x.turnsBy(), 14);
            x.drop(0);
        }
        put("0/1+");
        gives("covered", x.turnsBy(), 1);
        anew();
        put(GREATEST);
        gives("5,040", x.turnsBy(), 5040);
        put("0/11+");
        refused("above 5,040", x.turnsBy(), 7);
    }

    private void tree() {
        term("TREE: a NODE is all numbers of which a is left by M, first 0 by 1. It is CAUGHT, if one CLASS that is ON catches all of them; FREE, if none catches any;");
        treeIs("none is there: 0 by 1 is free", 0, 1, 1, 1);
        put("0/1-");
        treeIs("what is off does not catch", 0, 1, 1, 1);
        x.turn(0);
        treeIs("0 by 1 is caught", 1, 0, 1, 1);
        put("1/2+ 0/3+");
        treeIs("and stays so, though SPAN is 6", 1, 0, 1, 1);
        anew();
        put("0/2+ 1/2+");
        treeIs("all is caught, but not by one class", 2, 0, 3, 2);
        term("else it is parted by p, the least prime by which SPAN by M can be divided: a, a and M, a and twice M .. by M times p. LEAVES: its NODES that are CAUGHT, FREE.");
        put("0/3+ 1/6+");
        treeIs("first by 2, though 3 would do", 3, 3, 9, 6);
        anew();
        put("0/59+");
        treeIs("by 59", 1, 58, 60, 59);
        anew();
        put("3/4+ 0/9+");
        // By 2, 2, 3, 3: of 0, 1 and 2 by 4 each one of three is parted again; 3 by 4 is caught.
        treeIs("by 2, 2, 3, 3", 4, 12, 3 + 2 + 2 + 9 + 9, 36);
    }

    private void treeIs(String what, int caught, int free, int nodes, int greatest) {
        gives("caught leaves, " + what, x.tree(0), caught);
        gives("free leaves, " + what, x.tree(1), free);
        gives("nodes, " + what, x.tree(2), nodes);
        gives("greatest m, " + what, x.tree(3), greatest);
    }

    private void treeCounts() {
        promise(37, "How many LEAVES are CAUGHT (what 0), FREE (1); how many NODES there are (2); the greatest M of a NODE (3) (1; 7).");
        treeIs("none is there", 0, 1, 1, 1);
        for (int what : new int[] {-1, 4, FAR[0], FAR[1]}) {
            refused("tree " + what, x.tree(what), 1);
        }
        put("1/2+ 0/30+");
        // 1 by 2 is caught; of 0 by 2 a third is parted, of that a fifth is caught.
        treeIs("where the deepest is not the last", 2, 6, 3 + 3 + 5, 30);
        put("0/48+ 0/45+ 0/7+");
        gives("the greatest m", x.tree(3), 5040);
        put("0/11+");
        refused("above 5,040", x.tree(0), 7);
        refused("above 5,040, and what", x.tree(4), 1);
        takes("class a rest 0 by 3;", 1);
        treeIs("a small one behind a great one", 1, 2, 4, 3);
        takes("", 0);
        treeIs("none behind a small one", 0, 1, 1, 1);
    }

    private void leafOf() {
        promise(38, "The M of the LEAF that a number (0 to 9,999) is of (1; 7).");
        gives("none is there", x.leafOf(0), 1);
        gives("none is there", x.leafOf(9999), 1);
        put("1/2+ 0/30+");
        gives("0", x.leafOf(0), 30);
        gives("1", x.leafOf(1), 2);
        gives("2", x.leafOf(2), 6);
        gives("6", x.leafOf(6), 30);
        gives("29", x.leafOf(29), 2);
        gives("30, as 0", x.leafOf(30), 30);
        gives("9,999", x.leafOf(9999), 2);
        gives("9,998", x.leafOf(9998), 6);
        gives("9,996", x.leafOf(9996), 30);
        for (int n : new int[] {-1, 10000, FAR[0], FAR[1]}) {
            refused("leafOf " + n, x.leafOf(n), 1);
        }
        put("0/48+ 0/45+ 0/7+");
        gives("5,038, not of 30", x.leafOf(5038), 5040);
        put("0/11+");
        refused("above 5,040", x.leafOf(0), 7);
        refused("above 5,040, and no number", x.leafOf(-1), 1);
    }
}
