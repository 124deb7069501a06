/** Edges of choices, games, chances, and of the copy of a SYSTEM: promises 39 to 44. */
final class EdgesOfPlay extends Bench {
    @Override
    void run() {
        choices();
        choicesAnew();
        choiceOrder();
        choiceAt();
        choiceAtOrder();
        games();
        gamesBySpan();
        gameCalls();
        chances();
        copies();
    }

    private void choices() {
        term("CHOICES of n MODULI that a TRAY tells (their product 5,040 at most): how many ways there are to give each a REST, so that all numbers are caught (sort 0), all just once (sort 1), none twice (sort 2);");
        row(0);
        ways("none", 0, 0, 0, 1);
        row(0, 1, 1, 1, 1, 1, 1);
        ways("1", 1, 1, 1, 1);
        ways("1, 1: caught twice", 2, 1, 0, 0);
        ways("six times 1", 6, 1, 0, 0);
        row(0, 60, 60, 60);
        ways("60", 1, 0, 0, 60);
        ways("60, 60", 2, 0, 0, 60 * 59);
        row(0, 4, 4, 4, 4, 2, 2);
        ways("three of 4", 3, 0, 0, 24);
        ways("four of 4", 4, 24, 24, 24);
        // 2 has a parity; of the 256 ways of the others 110 have both rests of the other one.
        ways("four of 4, and 2", 5, 2 * 110, 0, 0);
        row(0, 2, 4, 8, 8);
        ways("2, 4, 8, 8", 4, 8, 8, 8);
        ways("2, 4, 8", 3, 0, 0, 8);
        row(0, 3, 2);
        ways("3 and 2 always meet", 2, 0, 0, 0);
        row(1, 1, 60, 42, 2);
        gives("5,040 ways", x.choices(1, 4, 0), 5040);
        row(1, 60, 42, 2);
        // 2 has one parity, 60 and 42 the other, and these two are unlike by 3.
        gives("none twice by 5,040", x.choices(1, 3, 2), 2 * 30 * 14);
        row(1, 5, 7, 9, 16);
        gives("no two of which have a divisor in common, all", x.choices(1, 4, 0), 0);
        gives("none twice", x.choices(1, 4, 2), 0);
        row(1, 5, 7, 9, 16, 1);
        gives("and 1: each way of 5,040", x.choices(1, 5, 0), 5040);
        gives("the last rest", x.choiceAt(1, 5, 0, 4), 0);
        row(1, 3, 41, 41);
        refused("5,043", x.choices(1, 3, 0), 7);
        gives("the first two: 123", x.choices(1, 2, 2), 0);
        row(1, 60, 60, 60, 60, 60, 60);
        refused("above what an int tells", x.choices(1, 6, 2), 7);
    }

    /** One call's moduli are none of the next one's. */
    private void choicesAnew() {
        term("how many ways there are to give each a REST");
        for (int m = 60; m >= 1; m--) {
            row(0, m);
            gives("apart, by " + m, x.choices(0, 1, 2), m);
            gives("all, by " + m, x.choices(0, 1, 0), m == 1 ? 1 : 0);
        }
    }

    private void ways(String what, int n, int all, int once, int apart) {
        gives("all, " + what, x.choices(0, n, 0), all);
        gives("just once, " + what, x.choices(0, n, 1), once);
        gives("none twice, " + what, x.choices(0, n, 2), apart);
    }

    private void choiceOrder() {
        promise(39, "CHOICES of the first n (0 to 6) numbers of a TRAY, sort 0 to 2: how many (1; 2; 3; 5: below 1, above 60; 7: their product is above 5,040).");
        row(0, 60, 60, 2, 61, 0);
        int[][] wrong1 = {{-1, 0, 0}, {4, 0, 0}, {0, -1, 0}, {0, 7, 0}, {0, 0, -1}, {0, 0, 3}, {1, 7, 0}, {1, 0, 3},
            {0, FAR[0], 0}, {0, FAR[1], 0}, {FAR[1], 0, 0}, {0, 0, FAR[0]}};
        for (int[] w : wrong1) {
            refused("choices " + w[0] + " " + w[1] + " " + w[2], x.choices(w[0], w[1], w[2]), 1);
        }
        refused("missing, even of none", x.choices(1, 0, 0), 2);
        refused("missing", x.choices(1, 6, 2), 2);
        refused("six of five, two of which can't be", x.choices(0, 6, 0), 3);
        refused("0 and 61", x.choices(0, 5, 0), 5);
        refused("61, and their product is above 5,040", x.choices(0, 4, 0), 5);
        refused("7,200", x.choices(0, 3, 0), 7);
        gives("only the first two are looked at", x.choices(0, 2, 0), 0);
        for (long v : new long[] {0, -1, 61, 1L << 32 | 2, Long.MIN_VALUE, Long.MAX_VALUE}) {
            row(2, 2, v);
            refused("a tray with " + v, x.choices(2, 2, 0), 5);
            gives("not looked at", x.choices(2, 1, 2), 2);
        }
        row(2, 60, 1);
        gives("60 and 1", x.choices(2, 2, 0), 60);
        x.tray(3, 0, 6);
        refused("a row of 0s", x.choices(3, 1, 0), 5);
        x.tray(3, 0, 0);
        gives("none of none", x.choices(3, 0, 2), 1);
        refused("one of none", x.choices(3, 1, 2), 3);
    }

    private void choiceAt() {
        term("the first: by the first MODULUS, then the next one ..");
        row(0, 4, 2, 8, 8);
        long[] first = {0, 1, 2, 6};
        for (int k = 0; k < 4; k++) {
            gives("first " + k, x.choiceAt(0, 4, 1, k), first[k]);
        }
        row(0, 3, 1, 3, 60);
        long[] apart = {0, 0, 0, 0};
        for (int k = 0; k < 4; k++) {
            gives("all by 1 " + k, x.choiceAt(0, 4, 0, k), apart[k]);
        }
        row(0, 60, 60);
        gives("apart", x.choiceAt(0, 2, 2, 0), 0);
        gives("apart", x.choiceAt(0, 2, 2, 1), 1);
    }

    private void choiceAtOrder() {
        promise(40, "The k-th REST, from 0 on, of the first of these (1: no such REST, too; 2; 3; 5; 7; 6: there is none).");
        row(0, 1, 1, 1, 1, 1, 1);
        gives("the first of six", x.choiceAt(0, 6, 0, 0), 0);
        gives("the sixth", x.choiceAt(0, 6, 0, 5), 0);
        for (int k : new int[] {-1, 6, FAR[0], FAR[1]}) {
            refused("no such rest " + k, x.choiceAt(0, 6, 0, k), 1);
        }
        refused("the second of one", x.choiceAt(0, 1, 0, 1), 1);
        refused("the first of none", x.choiceAt(0, 0, 2, 0), 1);
        refused("the second of one, missing", x.choiceAt(1, 1, 0, 1), 1);
        refused("no tray 4", x.choiceAt(4, 1, 0, 0), 1);
        refused("no tray -1", x.choiceAt(-1, 1, 0, 0), 1);
        refused("n 7", x.choiceAt(0, 7, 0, 0), 1);
        refused("n far below", x.choiceAt(0, FAR[0], 0, 0), 1);
        refused("n far above", x.choiceAt(0, FAR[1], 0, 0), 1);
        refused("sort 3", x.choiceAt(0, 1, 3, 0), 1);
        refused("sort -1", x.choiceAt(0, 1, -1, 0), 1);
        refused("missing", x.choiceAt(1, 6, 0, 0), 2);
        row(1, 60, 60, 2, 61);
        refused("five of four, one of which can't be", x.choiceAt(1, 5, 1, 0), 3);
        refused("61, and their product is above 5,040", x.choiceAt(1, 4, 1, 0), 5);
        refused("7,200, and there is none", x.choiceAt(1, 3, 1, 0), 7);
        refused("60 and 60 do not catch all", x.choiceAt(1, 2, 0, 0), 6);
        refused("nor just once", x.choiceAt(1, 2, 1, 0), 6);
        gives("but apart", x.choiceAt(1, 2, 2, 1), 1);
    }

    private void games() {
        term("GAME of n turns (0 to 2): by turns, first one who wants many GAPS by SPAN, then one who wants few, one SWITCHES a CLASS, or none:");
        put("0/2+ 1/2-");
        gives("no turn", x.game(0), 2520);
        gives("the first switches it off", x.game(1), 5040);
        gives("then the second switches one on", x.game(2), 2520);
        anew();
        put("0/2- 1/2-");
        gives("the first does nothing", x.game(1), 5040);
        gives("nor now, lest both be on", x.game(2), 2520);
        allAre("as they were", "0/2- 1/2-");
        term("GAPS by SPAN times 5,040, rounded down (what is compared, too), in the end, by best play");
        put("0/11+");
        gives("4,581 and 9 by 11", x.game(0), 4581);
        anew();
        // With 12 on alone 4,620; with 19 and 31 on 540 by 589, 4,620 and some, rounded down as good.
        put("10/19+ 16/31- 10/12-");
        gives("two turns", x.game(2), 4620);
        gives("19 comes first", x.moveOf(2), 0);
        term("MOVE: the first's first CLASS, of all that are as good the first; none comes last.");
        put("0/2+ 0/2+");
        gives("neither helps: the first, not none", x.moveOf(1), 0);
        anew();
        put("0/2- 1/3+ 2/3+");
        gives("the first of two as good", x.moveOf(1), 1);
        anew();
        put("0/2- 1/2-");
        refused("none is best", x.moveOf(1), 6);
        refused("none is best", x.moveOf(2), 6);
    }

    private void gamesBySpan() {
        term("(SPAN as it is at the end; a SWITCH by which it would be above 5,040 can't be).");
        put("0/60+ 0/59+ 0/58-");
        gives("29 by 30", x.game(0), 4872);
        gives("59 off: 59 by 60", x.game(1), 4956);
        gives("by 59", x.moveOf(1), 1);
        // 58 can be on with 60 alone or with 59 alone, not with both: with 59 57 by 59, 4,869.
        gives("two turns", x.game(2), 4872);
        gives("60 off would bring 4,869", x.moveOf(2), 1);
        anew();
        put("0/59+ 0/60- 0/7-");
        // With 59 and 60 on 7 can't be; else the second would have it.
        gives("60 on keeps 7 off", x.game(2), 4872);
        gives("by 60", x.moveOf(2), 1);
        anew();
        put("0/59- 0/58+ 0/57+ 0/1+ 0/1+");
        gives("covered, come what may", x.game(1), 0);
        gives("59 can't be, 58 is as good as any", x.moveOf(1), 1);
        anew();
        put("0/60+ 0/59+ 0/58- 0/1-");
        gives("the second has 1", x.game(2), 0);
        anew();
        put("0/48+ 0/45+ 0/7- 0/11-");
        // 48 and 45 leave 690 by 720; with 7 on SPAN is 5,040 just, with 11 it would be 7,920.
        gives("48 and 45", x.game(0), 4830);
        gives("without 45: 47 by 48", x.game(1), 4935);
        gives("by 45", x.moveOf(1), 1);
        gives("the second then has 7", x.game(2), 47 * 6 * 5040 / (48 * 7));
    }

    private void gameCalls() {
        promise(41, "GAME: GAPS by SPAN times 5,040, rounded down (1; 7).");
        for (int n = 0; n <= 2; n++) {
            gives("without classes " + n, x.game(n), 5040);
        }
        for (int n : new int[] {-1, 3, FAR[0], FAR[1]}) {
            refused("game " + n, x.game(n), 1);
        }
        put("0/1+");
        gives("covered", x.game(0), 0);
        put("0/59+ 0/58+ 0/57+");
        refused("above 5,040", x.game(0), 7);
        refused("above 5,040, though one could be switched off", x.game(2), 7);
        refused("above 5,040, and 3", x.game(3), 1);
        anew();
        takes(classes(12), 12);
        gives("one of twelve is not enough", x.game(2), 0);
        promise(42, "MOVE (1: n 0, too; 7; 6: none).");
        for (int n : new int[] {-1, 0, 3, FAR[0], FAR[1]}) {
            refused("moveOf " + n, x.moveOf(n), 1);
        }
        refused("without classes", x.moveOf(1), 6);
        refused("without classes", x.moveOf(2), 6);
        put("0/2-");
        refused("none", x.moveOf(1), 6);
        gives("it is on in any case", x.moveOf(2), 0);
        put("0/59+ 0/58+ 0/57+");
        refused("above 5,040", x.moveOf(1), 7);
        refused("above 5,040, and 0", x.moveOf(0), 1);
        anew();
        put("0/2- 0/3- 0/4- 0/5- 0/6- 0/7- 0/8- 0/9- 0/10- 0/12- 0/14- 0/1+");
        gives("the twelfth", x.moveOf(1), 11);
    }

    private void chances() {
        term("Of n numbers by chance (0 to 5), each as likely by SPAN, UNCAUGHT: the odds that k or more are GAPS.");
        put("0/3+");
        fraction("of one, one", x.uncaught(1, 1), 2, 3);
        fraction("of two, one or more", x.uncaught(2, 1), 8, 9);
        fraction("of two, two", x.uncaught(2, 2), 4, 9);
        fraction("of five, five", x.uncaught(5, 5), 32, 243);
        fraction("of five, one or more", x.uncaught(5, 1), 242, 243);
        fraction("of five, two or more", x.uncaught(5, 2), 232, 243);
        fraction("of five, three or more", x.uncaught(5, 3), 64, 81);
        fraction("of five, four or more", x.uncaught(5, 4), 112, 243);
        promise(43, "The FRACTION is UNCAUGHT (n, k 0 to 5) (1; 7).");
        fraction("without classes: of none, none", x.uncaught(0, 0), 1, 1);
        fraction("of none, one", x.uncaught(0, 1), 0, 1);
        fraction("of five, five", x.uncaught(5, 5), 1, 1);
        fraction("of four, five", x.uncaught(4, 5), 0, 1);
        put("0/1+");
        fraction("covered: of five, none", x.uncaught(5, 0), 1, 1);
        fraction("covered: of five, one", x.uncaught(5, 1), 0, 1);
        anew();
        // None of 5,040 numbers is caught twice: 105, 112 and 120 are caught, 4,703 are not; 337 is a prime.
        put("11/48+ 28/45+ 38/42+");
        fraction("the greatest bottom", x.uncaught(5, 5), 4703L * 4703 * 4703 * 4703 * 4703, 5040L * 5040 * 5040 * 5040 * 5040);
        fraction("and nearly all of it", x.uncaught(5, 1),
                5040L * 5040 * 5040 * 5040 * 5040 - 337L * 337 * 337 * 337 * 337, 5040L * 5040 * 5040 * 5040 * 5040);
        int[][] wrong1 = {{-1, 0}, {6, 0}, {0, -1}, {0, 6}, {6, 6}, {FAR[0], 0}, {FAR[1], 0}, {0, FAR[0]}, {0, FAR[1]}};
        for (int[] w : wrong1) {
            refused("uncaught " + w[0] + " " + w[1], x.uncaught(w[0], w[1]), 1);
        }
        put("0/11+");
        refused("above 5,040", x.uncaught(0, 0), 7);
        refused("above 5,040, and 6", x.uncaught(6, 0), 1);
    }

    private void copies() {
        promise(44, "REST, then MODULUS of all CLASSES come to a TRAY, one behind the other: how many CLASSES (1; 2; 3: fewer than two for each).");
        x.tray(0, 0, 0);
        gives("no classes to an empty tray", x.copySystem(0), 0);
        put("59/60- 0/1+");
        refused("two classes to an empty tray", x.copySystem(0), 3);
        row(0, 7, 7, 7);
        refused("to three places", x.copySystem(0), 3);
        rowIs(0, 7, 7, 7);
        row(0, 7, 7, 7, 7);
        gives("to four", x.copySystem(0), 2);
        rowIs(0, 59, 60, 0, 1);
        row(0, 7, 7, 7, 7, 7);
        gives("to five", x.copySystem(0), 2);
        rowIs(0, 59, 60, 0, 1, 7);
        for (int t : new int[] {-1, 4, FAR[0], FAR[1]}) {
            refused("no tray " + t, x.copySystem(t), 1);
        }
        refused("missing", x.copySystem(3), 2);
        takes(classes(12), 12);
        x.tray(1, 0, 24);
        gives("twelve to 24", x.copySystem(1), 12);
        gives("the last modulus", x.read(1, 23), 1);
        x.tray(1, 0, 23);
        refused("twelve to 23", x.copySystem(1), 3);
        for (int sort = 0; sort < 4; sort++) {
            takes("class a rest 59 by 60;", 1);
            x.tray(2, sort, 2);
            gives("to each sort", x.copySystem(2), 1);
            rowIs(2, 59, 60);
        }
    }
}
