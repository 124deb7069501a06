/** Edges of what is told of CLASSES and of what is done with them: promises 13 to 25. */
final class EdgesOfChanges extends Bench {
    @Override
    void run() {
        told();
        toldOfCouples();
        toldOfModuli();
        classOf();
        caught();
        tightest();
        switching();
        adding();
        dropping();
        moving();
        shifting();
        spreading();
        splitting();
        splitLimits();
        joining();
        joinsAmongLikeOnes();
        joinLimits();
        ruling();
    }

    private void told() {
        promise(13, "How many CLASSES (what 0); ODDS (1); the set of those that are ON (1 for CLASS 0 ..) (2); SPAN (3); GAPS (4); 1 if it is COVERED, else 0 (5);");
        long[] none = {0, 4, 0, 1, 1, 0, 0, 1};
        for (int what = 0; what < 8; what++) {
            gives("told without classes " + what, x.told(what), none[what]);
        }
        put("0/2- 1/2-");
        long[] off = {2, 4, 0, 1, 1, 0, 0, 1};
        for (int what = 0; what < 8; what++) {
            gives("told with all off " + what, x.told(what), off[what]);
        }
        x.turn(1);
        gives("the set", x.told(2), 2);
        gives("one gap by 2", x.told(4), 1);
        gives("not covered", x.told(5), 0);
        x.turn(0);
        gives("the set", x.told(2), 3);
        gives("no gap", x.told(4), 0);
        gives("covered", x.told(5), 1);
        takes(classes(12), 12);
        gives("all twelve", x.told(2), 4095);
        x.turn(0);
        gives("all but the first", x.told(2), 4094);
        x.turn(11);
        gives("all but the first and the last", x.told(2), 2046);
        promise(13, "(1; 3, 4, 5: 7).");
        put("0/60+ 0/59+ 0/58+");
        for (int what : new int[] {-1, 8, FAR[0], FAR[1]}) {
            refused("told " + what, x.told(what), 1);
        }
        for (int what = 3; what <= 5; what++) {
            refused("told " + what, x.told(what), 7);
        }
        gives("classes", x.told(0), 3);
        gives("odds", x.told(1), 4);
        gives("set", x.told(2), 7);
        gives("couples", x.told(6), 3);
        gives("unlike", x.told(7), 1);
    }

    private void toldOfCouples() {
        promise(13, "how many couples of CLASSES that are ON catch a number both (6);");
        put("0/2+");
        gives("one is no couple", x.told(6), 0);
        put("1/4+");
        gives("never", x.told(6), 0);
        put("2/4+");
        gives("0 by 2 and 2 by 4", x.told(6), 1);
        put("2/4+");
        gives("with one like it, which meets both", x.told(6), 3);
        put("59/60+");
        gives("59 is 3 by 4, and odd", x.told(6), 3);
        put("0/59+");
        gives("59 has no divisor in common with any", x.told(6), 3 + 5);
        x.turn(5);
        gives("off", x.told(6), 3);
        takes(classes(12), 12);
        gives("all of twelve", x.told(6), 66);
    }

    private void toldOfModuli() {
        promise(13, "1 if all MODULI of those are unlike and above 1, else 0 (7)");
        gives("of none", x.told(7), 1);
        put("0/1-");
        gives("of none that is on", x.told(7), 1);
        x.turn(0);
        gives("1 is not above 1", x.told(7), 0);
        x.drop(0);
        put("0/2+ 1/3+ 5/60+");
        gives("unlike", x.told(7), 1);
        put("59/60+");
        gives("60 twice", x.told(7), 0);
        x.turn(2);
        gives("60 once", x.told(7), 1);
        put("1/2+");
        gives("2 twice", x.told(7), 0);
    }

    private void classOf() {
        promise(14, "Of a CLASS, what 0: REST, 1: MODULUS, 2: 1 if it is ON, else 0 (1).");
        refused("no class 0", x.classOf(0, 0), 1);
        put("0/1+ 59/60-");
        gives("rest", x.classOf(0, 0), 0);
        gives("modulus", x.classOf(0, 1), 1);
        gives("on", x.classOf(0, 2), 1);
        gives("rest", x.classOf(1, 0), 59);
        gives("modulus", x.classOf(1, 1), 60);
        gives("off", x.classOf(1, 2), 0);
        for (int k : new int[] {-1, 2, 12, FAR[0], FAR[1]}) {
            refused("no class " + k, x.classOf(k, 0), 1);
        }
        for (int what : new int[] {-1, 3, FAR[0], FAR[1]}) {
            refused("what " + what, x.classOf(0, what), 1);
        }
    }

    private void caught() {
        term("A CLASS catches the whole numbers (0 and more) of which its REST is left by its MODULUS, if it is ON.");
        put("0/7+ 6/7+ 6/7- 0/1+");
        gives("0", x.caught(0), 1 + 8);
        gives("5", x.caught(5), 8);
        gives("6", x.caught(6), 2 + 8);
        gives("7", x.caught(7), 1 + 8);
        gives("13", x.caught(13), 2 + 8);
        promise(15, "The set of CLASSES that catch a number (0 to 9,999) (1).");
        gives("none there", x.caught(0), 0);
        // 9,999 is 39 by 60 and 0 by 11.
        put("39/60+ 0/11+ 0/60+");
        gives("0", x.caught(0), 2 + 4);
        gives("9,999", x.caught(9999), 1 + 2);
        for (int n : new int[] {-1, 10000, FAR[0], FAR[1]}) {
            refused("caught " + n, x.caught(n), 1);
        }
        takes(classes(12), 12);
        gives("by all twelve", x.caught(9999), 4095);
    }

    private void tightest() {
        promise(16, "The CLASS with the least MODULUS of those that catch a number (0 to 9,999), of several the first (1; 6: none does).");
        refused("none there", x.tightest(0), 6);
        put("0/2+ 0/3+ 0/2+");
        gives("the very first", x.tightest(0), 0);
        gives("the very first", x.tightest(2), 0);
        anew();
        put("0/4- 0/12+ 0/6+ 0/6+ 6/12+");
        gives("the first of two by 6", x.tightest(0), 2);
        refused("1", x.tightest(1), 6);
        refused("4, of one that is off", x.tightest(4), 6);
        x.turn(2);
        gives("the second of two by 6", x.tightest(6), 3);
        x.turn(3);
        gives("by 12", x.tightest(6), 4);
        // 9,999 is 3 by 6 and 3 by 12.
        put("3/12+");
        gives("9,999", x.tightest(9999), 5);
        for (int n : new int[] {-1, 10000, FAR[0], FAR[1]}) {
            refused("tightest " + n, x.tightest(n), 1);
        }
        anew();
        put("0/60+ 0/1+");
        gives("by 1", x.tightest(0), 1);
    }

    private void switching() {
        term("SWITCH: ON becomes OFF, OFF ON.");
        put("1/3+ 1/3-");
        x.turn(0);
        x.turn(1);
        allAre("then", "1/3- 1/3+");
        promise(17, "SWITCH: 1 if it is ON then, else 0 (1).");
        refused("no class 0", x.turn(0), 1);
        takes(classes(12), 12);
        gives("the first", x.turn(0), 0);
        gives("the last", x.turn(11), 0);
        gives("the set", x.told(2), 4094 - 2048);
        gives("the last again", x.turn(11), 1);
        gives("the set", x.told(2), 4094);
        for (int k : new int[] {-1, 12, 32, FAR[0], FAR[1]}) {
            refused("no class " + k, x.turn(k), 1);
        }
        gives("the set stays", x.told(2), 4094);
        anew();
        put("0/60+ 0/59+");
        put("0/58-");
        gives("a span above 5,040 does not hinder", x.turn(2), 1);
    }

    private void adding() {
        promise(18, "A CLASS more, ON (REST 0 to 59, MODULUS 1 to 60): its number (1; 4: a 13th).");
        gives("0 by 1", x.add(0, 1), 0);
        gives("59 by 60", x.add(59, 60), 1);
        gives("59 by 1", x.add(59, 1), 2);
        gives("59 by 59", x.add(59, 59), 3);
        allAre("then", "0/1+ 59/60+ 0/1+ 0/59+");
        int[][] wrong1 = {{-1, 5}, {60, 60}, {0, 0}, {0, 61}, {0, -1}, {FAR[0], 5}, {FAR[1], 5}, {0, FAR[0]}, {0, FAR[1]}};
        for (int[] w : wrong1) {
            refused("add " + w[0] + " " + w[1], x.add(w[0], w[1]), 1);
        }
        x.drop(3);
        gives("its number is that behind all", x.add(1, 5), 3);
        for (int k = 4; k < 12; k++) {
            gives("the next", x.add(0, 60), k);
        }
        refused("a 13th", x.add(0, 60), 4);
        refused("a 13th that can't be", x.add(60, 60), 1);
        gives("twelve", x.told(0), 12);
        x.drop(0);
        gives("a 12th again", x.add(0, 60), 11);
        anew();
        put("0/2-");
        x.drop(0);
        x.add(0, 2);
        allAre("on, though one that was off had its number", "0/2+");
    }

    private void dropping() {
        term("DROP: a CLASS is no more, those behind it have the number ahead.");
        put("0/2+ 1/3- 2/4+ 3/5-");
        x.drop(1);
        allAre("without the second", "0/2+ 2/4+ 3/5-");
        x.drop(2);
        allAre("without the last", "0/2+ 2/4+");
        x.drop(0);
        allAre("without the first", "2/4+");
        promise(19, "DROP: how many there are then (1).");
        refused("no class 0", x.drop(0), 1);
        takes(classes(12), 12);
        x.turn(11);
        x.turn(1);
        gives("the last", x.drop(11), 11);
        gives("the set", x.told(2), 2047 - 2);
        gives("the first", x.drop(0), 10);
        gives("the set", x.told(2), 1023 - 1);
        for (int k : new int[] {-1, 10, FAR[0], FAR[1]}) {
            refused("no class " + k, x.drop(k), 1);
        }
        for (int left = 9; left >= 0; left--) {
            gives("one by one", x.drop(0), left);
        }
        refused("none is left", x.drop(0), 1);
        gives("the set of none", x.told(2), 0);
        takes("class a rest 0 by 2; class b rest 0 by 3; class c rest 0 by 5;", 3);
        x.drop(1);
        takesDays("off c;", 1);
        daysFault("off b;", 3, 4);
        gives("live", x.live(0), 1);
        allAre("c's name went along with it", "0/2+ 0/5-");
    }

    private void moving() {
        promise(20, "REST of a CLASS from now on (0 to 59, what is left of it): what it was (1).");
        refused("no class 0", x.move(0, 0), 1);
        put("3/7+ 0/60- 0/1+");
        gives("to 0", x.move(0, 0), 3);
        gives("to 7", x.move(0, 7), 0);
        gives("to 6", x.move(0, 6), 0);
        gives("to 59", x.move(0, 59), 6);
        gives("to 59", x.move(1, 59), 0);
        gives("to 59", x.move(2, 59), 0);
        allAre("then", "3/7+ 59/60- 0/1+");
        for (int r : new int[] {-1, 60, FAR[0], FAR[1]}) {
            refused("to " + r, x.move(0, r), 1);
        }
        for (int k : new int[] {-1, 3, FAR[0], FAR[1]}) {
            refused("no class " + k, x.move(k, 0), 1);
        }
        allAre("still", "3/7+ 59/60- 0/1+");
    }

    private void shifting() {
        term("SHIFT by n: the REST of each CLASS is n more, what is left of that by its MODULUS.");
        put("0/7+ 6/7- 0/1+ 59/60+");
        x.shift(1);
        allAre("by 1", "1/7+ 0/7- 0/1+ 0/60+");
        x.shift(59);
        allAre("by 59", "4/7+ 3/7- 0/1+ 59/60+");
        promise(21, "SHIFT by n (0 to 59) (1).");
        does("without classes", x.shift(59));
        takes(classes(12), 12);
        x.spread(60);
        does("of twelve", x.shift(59));
        for (int k = 0; k < 12; k++) {
            gives("rest of " + k, x.classOf(k, 0), 59);
        }
        anew();
        put("5/7+ 8/9-");
        does("by 0", x.shift(0));
        allAre("by 0", "5/7+ 8/9-");
        does("by 59", x.shift(59));
        allAre("by 59", "1/7+ 4/9-");
        for (int n : new int[] {-1, 60, FAR[0], FAR[1]}) {
            refused("by " + n, x.shift(n), 1);
        }
        allAre("still", "1/7+ 4/9-");
    }

    private void spreading() {
        term("SPREAD by n: each MODULUS, each REST is n times itself (each MODULUS 60 at most).");
        put("1/2+ 0/3- 4/5+");
        gives("by 12: 60 at most", x.spread(12), 60);
        allAre("then", "12/24+ 0/36- 48/60+");
        promise(22, "SPREAD by n (2 to 60): the greatest MODULUS then (1; 7: one would be above 60; 6: there are no CLASSES).");
        refused("no classes", x.spread(2), 6);
        refused("no classes", x.spread(60), 6);
        refused("1 of no classes", x.spread(1), 1);
        put("0/1+");
        for (int n : new int[] {-1, 0, 1, 61, FAR[0], FAR[1]}) {
            refused("by " + n, x.spread(n), 1);
        }
        gives("by 60", x.spread(60), 60);
        refused("again", x.spread(2), 7);
        anew();
        put("1/2+ 30/31-");
        refused("62, of one that is off", x.spread(2), 7);
        allAre("still", "1/2+ 30/31-");
        x.drop(1);
        put("0/30+");
        gives("the greatest is not the first", x.spread(2), 60);
        allAre("then", "2/4+ 0/60+");
        takesDays("", 0);
        anew();
        takes("class a rest 1 by 2 off;", 1);
        gives("by 2", x.spread(2), 4);
        takesDays("on a;", 1);
    }

    private void splitting() {
        term("SPLIT of a CLASS by n: it and n less 1 new ones, behind all that are, without NAMES, have its MODULUS n times, and its REST, then that and its MODULUS, twice its MODULUS .. (its old one) more; all are ON, or OFF, as it is.");
        takes("class a rest 1 by 2; class b rest 2 by 4 off; class c rest 0 by 1;", 3);
        gives("by 2", x.split(1, 2), 4);
        allAre("then", "1/2+ 2/8- 0/1+ 6/8-");
        gives("by 3", x.split(0, 3), 6);
        allAre("then", "1/6+ 2/8- 0/1+ 6/8- 3/6+ 5/6+");
        gives("by 7", x.split(2, 7), 12);
        allAre("then", "1/6+ 2/8- 0/7+ 6/8- 3/6+ 5/6+ 1/7+ 2/7+ 3/7+ 4/7+ 5/7+ 6/7+");
        takesDays("off a;on b;off c;", 3);
        x.live(0);
        gives("each name is that of the one that was split", x.told(2), 4095 - 1 - 4 - 8);
        anew();
        takes("class a rest 0 by 2;", 1);
        x.split(0, 2);
        x.drop(0);
        daysFault("on a;", 3, 3);
    }

    private void splitLimits() {
        promise(23, "SPLIT by n (2 to 7): how many CLASSES there are then (1; 4: a 13th; 7: the MODULUS would be above 60).");
        refused("no class 0", x.split(0, 2), 1);
        put("0/30+ 7/9+ 0/31+");
        for (int n : new int[] {-1, 0, 1, 8, FAR[0], FAR[1]}) {
            refused("by " + n, x.split(0, n), 1);
        }
        for (int k : new int[] {-1, 3, FAR[0], FAR[1]}) {
            refused("no class " + k, x.split(k, 2), 1);
        }
        refused("62", x.split(2, 2), 7);
        refused("63", x.split(1, 7), 7);
        allAre("still", "0/30+ 7/9+ 0/31+");
        gives("60", x.split(0, 2), 4);
        allAre("then", "0/60+ 7/9+ 0/31+ 30/60+");
        gives("54", x.split(1, 6), 9);
        put("0/1+ 0/2+");
        gives("eleven", x.told(0), 11);
        refused("by 3: a 13th", x.split(9, 3), 4);
        refused("by 3, to 180: a 13th comes ahead", x.split(0, 3), 4);
        refused("by 8: 1 comes ahead of a 13th", x.split(0, 8), 1);
        refused("by 2, to 120", x.split(0, 2), 7);
        gives("by 2: a 12th", x.split(9, 2), 12);
        refused("by 2: a 13th", x.split(9, 2), 4);
        anew();
        put("0/1+ 0/1+ 0/1+ 0/1+ 0/1+ 0/1+");
        gives("by 7 from six to twelve", x.split(5, 7), 12);
    }

    private void joining() {
        term("JOIN of a CLASS by n: if its MODULUS can be divided by n, and there are just those n CLASSES that SPLIT would make by n of one with the MODULUS divided by n, all ON, or OFF, as it is");
        put("3/6+ 1/2+ 0/6- 5/6+ 1/6+");
        gives("the first by 3", x.join(0, 3), 3);
        allAre("then", "1/2+ 1/2+ 0/6-");
        anew();
        put("3/6+ 5/6+ 0/6-");
        refused("one lacks", x.join(0, 3), 6);
        put("1/6-");
        refused("one is off", x.join(0, 3), 6);
        refused("all others are on", x.join(3, 3), 6);
        refused("by 2 0 is left by 3, not on", x.join(0, 2), 6);
        x.turn(0);
        x.turn(1);
        gives("all off", x.join(1, 3), 2);
        allAre("then", "1/2- 0/6-");
        term("it has the MODULUS divided by n and the REST left by that, the others are no more (those behind have numbers less).");
        takes("class a rest 9 by 10; class b rest 7 by 8; class c rest 4 by 10; class d rest 1 by 1; class e rest 2 by 3 off;", 5);
        gives("by 2", x.join(2, 2), 4);
        allAre("then", "7/8+ 4/5+ 0/1+ 2/3-");
        takesDays("off b;off c;off d;on e;", 4);
        daysFault("off a;", 3, 4);
        gives("live", x.live(0), 0 + 4);
        allAre("names went along", "7/8- 4/5- 0/1- 2/3+");
        anew();
        put("0/2+ 1/2+");
        gives("to all numbers", x.join(1, 2), 1);
        allAre("then", "0/1+");
    }

    private void joinsAmongLikeOnes() {
        term("(it itself, of each other REST the first one)");
        put("0/2+ 1/2- 1/2+ 0/2+ 1/2+");
        gives("the fourth itself, not the first", x.join(3, 2), 4);
        allAre("the first of the others that is on", "0/2+ 1/2- 0/1+ 1/2+");
        anew();
        put("1/3+ 0/3+ 2/3+ 0/3+ 1/3+ 2/3+");
        gives("the last by 3", x.join(5, 3), 4);
        allAre("then", "2/3+ 0/3+ 1/3+ 0/1+");
    }

    private void joinLimits() {
        promise(24, "JOIN by n (2 to 7): how many CLASSES there are then (1; 7: the MODULUS can't be divided; 6: they are not there).");
        refused("no class 0", x.join(0, 2), 1);
        put("0/2+ 1/2+ 0/7+ 1/7+ 2/7+ 3/7+ 4/7+ 5/7+ 6/7+ 0/1+ 0/60+ 0/8+");
        for (int n : new int[] {-1, 0, 1, 8, FAR[0], FAR[1]}) {
            refused("by " + n, x.join(11, n), 1);
        }
        for (int k : new int[] {-1, 12, FAR[0], FAR[1]}) {
            refused("no class " + k, x.join(k, 2), 1);
        }
        refused("1 by 2", x.join(9, 2), 7);
        refused("2 by 4", x.join(0, 4), 7);
        refused("2 by 3", x.join(0, 3), 7);
        refused("60 by 7", x.join(10, 7), 7);
        refused("60 by 6", x.join(10, 6), 6);
        refused("8 by 4", x.join(11, 4), 6);
        gives("by 7", x.join(8, 7), 6);
        allAre("then", "0/2+ 1/2+ 0/1+ 0/1+ 0/60+ 0/8+");
        gives("by 2", x.join(0, 2), 5);
        allAre("then", "0/1+ 0/1+ 0/1+ 0/60+ 0/8+");
    }

    private void ruling() {
        promise(25, "ODDS from now on (0 to 16) (1).");
        does("0", x.rule(0));
        gives("0", x.told(1), 0);
        does("16", x.rule(16));
        gives("16", x.told(1), 16);
        for (int odds : new int[] {-1, 17, FAR[0], FAR[1]}) {
            refused("rule " + odds, x.rule(odds), 1);
        }
        gives("still", x.told(1), 16);
    }
}
