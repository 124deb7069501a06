import java.util.List;
import java.util.Set;

/** Edges of the tape, of a SYSTEM as a text, and of its FAULTS: promises 9, 10, 12. */
final class EdgesOfTexts extends Bench {
    static final List<String> KEPT = List.of("odds", "class", "rest", "by", "off", "on", "shift", "split", "any", "when",
            "covered", "caught", "gaps", "loop", "end", "stop");

    @Override
    void run() {
        tape();
        longest();
        blanks();
        everyByte();
        numbers();
        parts();
        names();
        odds();
        manyClasses();
        moduliAndRests();
        onAndOff();
        firstFault();
        kindsOfFaults();
        placeOfTheOld();
        systemCall();
        faultCall();
    }

    private void tape() {
        promise(9, "Twenty bytes come behind those on the tape, the highest of each int first: how many it has;");
        due("feed", x.feed(0x6f646473, 0x20313b63, 0x6c617373, 0x20612072, 0x65737420), 20);
        due("feed", x.feed(0x35206279, 0x20372020, 0x6f66663b, 0xffffffff, 0x80000000), 40);
        gives("odds 1;class a rest 5 by 7  off;", x.system(32), 1);
        gives("odds", x.told(1), 1);
        allAre("then", "5/7-");
        promise(9, "NONE if there would be more than 900.");
        refused("undo", x.undo(), 6);
        for (int i = 1; i <= 45; i++) {
            due("feed", x.feed(0x20202020, 0x0a0a0a0a, 0x20202020, 0x20202020, 0x20202020), 20 * i);
        }
        due("feed to 920", x.feed(0, 0, 0, 0, 0), -1);
        due("feed to 920 again", x.feed(0, 0, 0, 0, 0), -1);
        due("it has no status", x.status(), 6);
        refused("there are not 901", x.system(901), 1);
        gives("the 900 are as they were", x.system(900), 0);
        due("then there is room again", x.feed(0, 0, 0, 0, 0), 20);
    }

    private void longest() {
        term("A SYSTEM is a TEXT of at most 900 bytes.");
        String five = FIVE.substring(FIVE.indexOf("class"));
        takes(five + " ".repeat(900 - five.length() - 8) + "odds\n16;", 5);
        gives("odds at the end of 900 bytes", x.told(1), 16);
        takes("odds 3;" + " ".repeat(893), 0);
        gives("odds at the beginning of 900 bytes", x.told(1), 3);
        fault(" ".repeat(899) + "!", 1, 899);
        fault(" ".repeat(899) + "1", 2, 899);
        fault(" ".repeat(896) + "odds", 2, 900);
        fault("x".repeat(900), 2, 0);
        fault("1".repeat(900), 1, 0);
        fault(";".repeat(900), 2, 0);
    }

    private void blanks() {
        term("TOKENS, as long as they go, between them blanks (10, 32)");
        takes("\n\n  class\n\na\n rest 1\nby  \n3 off\n;\n", 1);
        allAre("with blanks of both sorts", "1/3-");
        takes("class a rest 1by 3off;odds 7;class b rest 02by2;", 2);
        allAre("without blanks where none need be", "1/3- 0/2+");
        fault("classa rest 1 by 3;", 2, 0);
        fault("class arest 1 by 3;", 2, 12);
        fault("class a rest1 by3off of;", 2, 21);
        fault("class a rest 1 by 3of f;", 2, 19);
        fault("class a1 rest 1 by 3;", 2, 7);
        fault("odds 1 6;", 2, 7);
        fault("od ds 1;", 2, 0);
        takes("", 0);
        takes(" ", 0);
        takes("\n", 0);
    }

    private void everyByte() {
        term("WORDS (small letters), NUMBERS (1 to 4 digits), SIGNS ; < > =");
        for (int b = 0; b < 256; b++) {
            anew();
            String one = String.valueOf((char) b);
            if (b == 10 || b == 32) {
                takes(one, 0);
                continue;
            }
            boolean begins = b >= 'a' && b <= 'z' || b >= '0' && b <= '9' || b == ';' || b == '<' || b == '>' || b == '=';
            fault(one, begins ? 2 : 1, 0);
            fault("odds 4;" + one, begins ? 2 : 1, 7);
            if (!begins) {
                fault("odds 4" + one + ";", 1, 6);
                fault("class a" + one + "b", 1, 7);
            }
        }
    }

    private void numbers() {
        term("NUMBERS (1 to 4 digits)");
        takes("odds 9;", 0);
        takes("odds 16;", 0);
        takes("odds 007;", 0);
        gives("odds", x.told(1), 7);
        takes("odds 0016;", 0);
        gives("odds", x.told(1), 16);
        fault("odds 9999;", 4, 5);
        fault("odds 00016;", 1, 5);
        fault("class a rest 00000 by 2;", 1, 13);
        fault("class a rest 0 by 00002;", 1, 18);
        // By 2 to the 32 these would be 4, and 18446744073709551620 by 2 to the 64.
        fault("odds 4294967300;", 1, 5);
        fault("odds 18446744073709551620;", 1, 5);
    }

    private void parts() {
        term("SYSTEM: {PART}.   PART: odds NUMBER ; or class NAME rest NUMBER by NUMBER [off] ;   ({ } any number of times, [ ] perhaps.)");
        takes("", 0);
        takes(classes(1), 1);
        takes(classes(2) + "odds 1;" + "class z rest 0 by 1 off;", 3);
        form("odds|odds class", "1|NUMBER", ";|;", "odds|class");
        form("class|odds class", "zz|NAME", "rest|rest", "1|NUMBER", "by|by", "1|NUMBER", "off|off ;", ";|;", "class|odds class");
        form("class|odds class", "zz|NAME", "rest|rest", "1|NUMBER", "by|by", "1|NUMBER", ";|off ;", "class|odds class");
    }

    /** A form is its tokens; behind each bar stands what may be in that place. */
    private void form(String... places) {
        String ahead = "";
        for (int i = 0; i < places.length; i++) {
            int bar = places[i].indexOf('|');
            Set<String> fit = Set.of(places[i].substring(bar + 1).split(" "));
            if (i > 0 && !fit.contains("class")) {
                anew();
                fault(ahead, 2, ahead.length());
                fault(ahead + " \n", 2, ahead.length() + 2);
            }
            for (String token : List.of("yy", "0", ";", "<", ">", "=", "abcdefghi")) {
                boolean fits = fit.contains(token) || token.equals("yy") && fit.contains("NAME")
                        || token.equals("0") && fit.contains("NUMBER");
                misfit(ahead, token, fits);
            }
            for (String word : KEPT) {
                misfit(ahead, word, fit.contains(word) || i > 2 && word.equals("odds") && fit.contains("class"));
            }
            ahead += places[i].substring(0, bar) + " ";
        }
    }

    private void misfit(String ahead, String token, boolean fits) {
        if (!fits) {
            anew();
            fault(ahead + token, 2, ahead.length());
            fault(ahead + token + " ;", 2, ahead.length());
        }
    }

    private void names() {
        term("NAME: a WORD of 1 to 8 letters");
        takes("class a rest 0 by 2; class abcdefgh rest 1 by 2;", 2);
        takesDays("off abcdefgh;", 1);
        gives("live", x.live(0), 1);
        allAre("then", "0/2+ 1/2-");
        fault("class abcdefghi rest 0 by 2;", 2, 6);
        fault("class " + "z".repeat(894), 2, 6);
        term("that is none of odds, class, rest, by, off, on, shift, split, any, when, covered, caught, gaps, loop, end, stop.");
        for (String word : KEPT) {
            anew();
            fault("class " + word + " rest 0 by 2;", 2, 6);
            takes("class " + word + "s rest 0 by 2;", 1);
            takes("class x" + word + " rest 0 by 2;", 1);
            takes("class " + word.substring(1) + " rest 0 by 2;", 1);
            takes("class " + word.substring(0, word.length() - 1) + "q rest 0 by 2;", 1);
        }
        term("No two CLASSES have one NAME.");
        fault("class a rest 0 by 2; class a rest 1 by 2;", 3, 27);
        fault("class b rest 0 by 2; class a rest 1 by 2 off; class a rest 0 by 5;", 3, 52);
        fault("class abcdefgh rest 0 by 2; class abcdefgh", 3, 34);
        takes("class abcdefgh rest 0 by 2; class abcdefgi rest 1 by 2; class bbcdefgh rest 1 by 2;", 3);
        takes("class a rest 0 by 2; class aa rest 1 by 2; class aaa rest 1 by 2;", 3);
        takes("class a rest 0 by 2;", 1);
        takes("class a rest 0 by 2;", 1);
    }

    private void odds() {
        term("ODDS (0 to 16; 4 without).");
        takes("odds 0;", 0);
        gives("0", x.told(1), 0);
        takes("odds 16;", 0);
        gives("16", x.told(1), 16);
        fault("odds 17;", 4, 5);
        gives("still 16", x.told(1), 16);
        takes("class a rest 0 by 2;", 1);
        gives("4 without", x.told(1), 4);
        x.rule(9);
        takes("", 0);
        gives("4 without", x.told(1), 4);
    }

    private void manyClasses() {
        term("CLASSES, at most 12, are numbered as they stand");
        StringBuilder s = new StringBuilder();
        StringBuilder want = new StringBuilder();
        for (int k = 0; k < 12; k++) {
            s.append("class ").append((char) ('z' - k)).append(" rest ").append(k).append(" by ").append(k + 20).append(";");
            want.append(k == 0 ? "" : " ").append(k).append('/').append(k + 20).append('+');
        }
        takes(s.toString(), 12);
        allAre("in their order", want.toString());
        gives("the set of all", x.told(2), 4095);
        fault(s + "class a rest 0 by 2;", 6, s.length());
        takes(s + "odds 2;", 12);
        gives("odds behind twelve", x.told(1), 2);
        takes("", 0);
        refused("no class 0", x.classOf(0, 0), 1);
    }

    private void moduliAndRests() {
        term("MODULUS (by; 1 to 60)");
        takes("class a rest 0 by 1; class b rest 59 by 60;", 2);
        allAre("then", "0/1+ 59/60+");
        fault("class a rest 0 by 0;", 4, 18);
        fault("class a rest 0 by 61;", 4, 18);
        fault("class a rest 0 by 9999;", 4, 18);
        term("REST (0 to 59; what is left of it by the MODULUS is the REST)");
        takes("class a rest 0 by 7; class b rest 6 by 7; class c rest 7 by 7; class d rest 59 by 7; class e rest 59 by 1;", 5);
        allAre("then", "0/7+ 6/7+ 0/7+ 3/7+ 0/1+");
        fault("class a rest 60 by 60;", 4, 13);
        fault("class a rest 9999 by 60;", 4, 13);
    }

    private void onAndOff() {
        term("ON, or OFF.");
        takes("class a rest 0 by 2 off; class b rest 0 by 3; class c rest 0 by 5off;", 3);
        gives("b alone is on", x.told(2), 2);
        fault("class a rest 0 by 2 on;", 2, 20);
        fault("class a rest 0 by 2 off off;", 2, 24);
    }

    private void firstFault() {
        term("FAULTS, the first along the text (of one TOKEN the least kind):");
        fault("odds 17; !", 4, 5);
        fault("! odds 17;", 1, 0);
        fault("class a rest 60 by 61;", 4, 13);
        fault("class a rest 1 by 61 !", 4, 18);
        fault("odds 4; odds !", 5, 8);
        fault("class a rest 1 by 2; class a !", 3, 27);
        fault(classes(12) + "class !", 6, classes(12).length());
        fault(classes(12) + "class a", 6, classes(12).length());
        // The least kind of one TOKEN: 1 ahead of 2 and 4, 2 ahead of 3, 4, 5 and 6.
        fault("12345", 1, 0);
        fault("odds 99999;", 1, 5);
        fault("class 12345", 1, 6);
        fault("class a rest 1 by 2; class b a", 2, 29);
        fault("odds 4 17;", 2, 7);
        fault("odds 4 odds 5;", 2, 7);
        fault(classes(12) + "odds class", 2, classes(12).length() + 5);
    }

    private void kindsOfFaults() {
        term("1 no TOKEN begins so (a NUMBER of 5 digits and more: at its first).");
        fault("odds 4,", 1, 6);
        fault("odds\t4;", 1, 4);
        fault("odds -4;", 1, 5);
        fault("Odds 4;", 1, 0);
        fault("oDds 4;", 2, 0);
        fault("odds   12345", 1, 7);
        fault("odds   123456789012345", 1, 7);
        term("2 it can't stand there (the end: the text's length; a WORD of 9 letters and more where a NAME must stand).");
        fault("odds", 2, 4);
        fault("odds 4  \n ", 2, 10);
        fault("class a rest 1 by 2 off", 2, 23);
        fault("class ninelette rest 1 by 2;", 2, 6);
        fault("class tenletters rest 1 by 2;", 2, 6);
        fault("oddsoddso 4;", 2, 0);
        term("3 a new NAME that is taken.");
        fault("class a rest 1 by 2; class b rest 1 by 2; class  a", 3, 49);
        takes("class a rest 1 by 2;", 1);
        takes("class a rest 1 by 3;", 1);
        term("4 a NUMBER that can't be.");
        fault("odds 17", 4, 5);
        fault("class a rest 60", 4, 13);
        fault("class a rest 1 by 0", 4, 18);
        fault("class a rest 1 by 61", 4, 18);
        term("5 odds told already (at that WORD).");
        fault("odds 4;odds", 5, 7);
        fault("odds 0; class a rest 1 by 2; odds 0;", 5, 29);
        takes("odds 4;", 0);
        takes("odds 5;", 0);
        term("6 a 13th class (at that WORD).");
        takes(classes(12), 12);
        fault(classes(13), 6, classes(12).length());
        fault(classes(12) + " class", 6, classes(12).length() + 1);
        gives("the twelve stay", x.told(0), 12);
    }

    private void placeOfTheOld() {
        term("A SYSTEM that is taken is there in place of that ahead; there are no DAYS.");
        takes(FIVE, 5);
        takesDays("any;", 1);
        x.turn(0);
        takes("class q rest 1 by 2 off;", 1);
        allAre("then", "1/2-");
        gives("odds", x.told(1), 4);
        refused("no class b", x.classOf(1, 0), 1);
        daysFault("on a;", 3, 3);
        refused("no days", x.live(0), 6);
        refused("no days", x.mean(0, 1), 6);
        takesDays("on q;", 1);
        takes("", 0);
        refused("no days behind an empty system, either", x.live(0), 6);
        takes(FIVE, 5);
        takes("", 0);
        gives("none is on", x.told(2), 0);
        gives("span", x.told(3), 1);
        gives("caught", x.caught(0), 0);
        gives("thick", x.thick(), 0);
        takes(FIVE, 5);
        takes("class q rest 0 by 2 off; class r rest 1 by 2;", 2);
        gives("r is on", x.told(2), 2);
    }

    private void systemCall() {
        promise(10, "The first n bytes of the tape (which is empty then) are the SYSTEM: how many CLASSES");
        feed("odds 12; odds odds !");
        gives("the first eight", x.system(8), 0);
        gives("odds", x.told(1), 12);
        refused("the rest is gone", x.system(1), 1);
        feed("odds 12;");
        refused("a number cut by n", x.system(6), 9);
        due("fault", x.fault(0), 2);
        due("place", x.fault(1), 6);
        refused("the rest is gone, too", x.system(1), 1);
        takes(FIVE, 5);
        gives("none of it: a system without classes", x.system(0), 0);
        gives("odds", x.told(1), 4);
        gives("classes", x.told(0), 0);
        promise(10, "(1: n below 0, or more than the tape has, too;");
        refused("-1 of nothing", x.system(-1), 1);
        refused("1 of nothing", x.system(1), 1);
        feed("odds 12;");
        refused("-1", x.system(-1), 1);
        refused("far below", x.system(FAR[0]), 1);
        refused("21", x.system(21), 1);
        refused("far above", x.system(FAR[1]), 1);
        gives("the tape was not touched", x.system(8), 0);
        gives("odds", x.told(1), 12);
        feed("odds 13;            ");
        gives("all 20", x.system(20), 0);
        promise(10, "9: the old one stays).");
        takes(FIVE, 5);
        takesDays("off a;", 1);
        x.turn(4);
        fault("class q rest 1 by 2; odds 3; odds", 5, 29);
        allAre("then", "0/2+ 0/3+ 1/4+ 5/6+ 7/12-");
        gives("odds", x.told(1), 8);
        gives("and its days", x.live(0), 1);
        gives("a is off", x.classOf(0, 2), 0);
    }

    private void faultCall() {
        promise(12, "Of the latest system() or days() with STATUS 0 or 9, what 0: the FAULT (0 without one), 1: its place (NONE without).");
        fault("odds 4; !", 1, 8);
        refused("a status of 1 changes nothing", x.system(99), 1);
        refused("nor of days", x.days(99), 1);
        due("fault", x.fault(0), 1);
        due("place", x.fault(1), 8);
        takes("", 0);
        due("without one", x.fault(0), 0);
        due("without a place", x.fault(1), -1);
        daysFault("end;", 2, 0);
        takesDays("", 0);
        due("without one", x.fault(0), 0);
        due("without a place", x.fault(1), -1);
        daysFault("any", 2, 3);
        x.mark();
        x.undo();
        x.feed(0, 0, 0, 0, 0);
        due("other calls do not change it", x.fault(0), 2);
        due("other calls do not change it", x.fault(1), 3);
        promise(12, "NONE for others, and ahead of any.");
        due("ahead of any", x.fault(0), -1);
        due("ahead of any", x.fault(1), -1);
        refused("one that is refused", x.system(1), 1);
        due("still ahead of any", x.fault(0), -1);
        due("still ahead of any", x.fault(1), -1);
        fault("odds 4; !", 1, 8);
        for (int what : new int[] {-1, 2, 3, FAR[0], FAR[1]}) {
            due("fault " + what, x.fault(what), -1);
        }
    }
}
