import java.util.List;
import java.util.Set;

/** Edges of DAYS as a text, and of its FAULTS: promise 11. */
final class EdgesOfDaysTexts extends Bench {
    private static final String STEPS = "on off shift split any when loop stop";

    @Override
    void run() {
        longest();
        tokens();
        forms();
        whens();
        ends();
        namesOfClasses();
        numbers();
        manySteps();
        deep();
        faultOrder();
        daysCall();
    }

    private void begin() {
        takes(FIVE, 5);
    }

    private void longest() {
        term("DAYS are a TEXT of at most 300 bytes");
        begin();
        takesDays("off a;" + " ".repeat(288) + "off b;", 2);
        gives("live", x.live(0), 2);
        gives("both are off", x.told(2), 31 - 3);
        feed(" ".repeat(301));
        refused("301", x.days(301), 1);
        gives("300 of them", x.days(300), 0);
        daysFault(" ".repeat(299) + "!", 1, 299);
        daysFault(" ".repeat(297) + "any", 2, 300);
        daysFault("x".repeat(300), 2, 0);
        daysFault("1".repeat(300), 1, 0);
    }

    private void tokens() {
        term(", of such TOKENS (none at first).");
        refused("none at first", x.live(0), 6);
        begin();
        refused("none behind a system", x.live(0), 6);
        takesDays("\nshift\n\n3 ;any;when caught 7;end;when gaps<7;end\n;", 4);
        daysFault("anyany;", 2, 0);
        takesDays("shift3\n;", 1);
        takesDays("split a2;", 1);
        takesDays("when gaps>0007;end;", 1);
        for (int b = 0; b < 256; b++) {
            anew();
            String one = String.valueOf((char) b);
            if (b == 10 || b == 32) {
                takesDays(one, 0);
                continue;
            }
            boolean begins = b >= 'a' && b <= 'z' || b >= '0' && b <= '9' || b == ';' || b == '<' || b == '>' || b == '=';
            daysFault("any;" + one, begins ? 2 : 1, 4);
        }
    }

    private void forms() {
        term("DAYS: {STEP}.   STEP: on NAME ; or off NAME ; or shift NUMBER ; or split NAME NUMBER ; or any ; or when TEST ; {STEP} end ; or loop NUMBER ; {STEP} end ; or stop ;");
        begin();
        takesDays("", 0);
        takesDays("on a;off a;shift 1;split a 2;any;stop;", 6);
        takesDays("when covered;end;loop 1;end;", 2);
        takesDays("when covered;any;when covered;any;end;any;end;loop 2;any;any;end;", 8);
        form("on|" + STEPS, "a|NAME", ";|;", "any|" + STEPS);
        form("off|" + STEPS, "a|NAME", ";|;", "any|" + STEPS);
        form("shift|" + STEPS, "2|NUMBER", ";|;", "any|" + STEPS);
        form("split|" + STEPS, "a|NAME", "2|NUMBER", ";|;", "any|" + STEPS);
        form("any|" + STEPS, ";|;", "any|" + STEPS);
        form("stop|" + STEPS, ";|;", "any|" + STEPS);
        form("loop|" + STEPS, "2|NUMBER", ";|;", "any|end " + STEPS, ";|;", "end|end " + STEPS, ";|;", "any|" + STEPS);
        form("loop|" + STEPS, "2|NUMBER", ";|;", "end|end " + STEPS, ";|;", "any|" + STEPS);
    }

    private void whens() {
        term("TEST: covered, or caught NUMBER, or on NAME, or gaps COMPARES NUMBER.   COMPARES: < or > or =");
        begin();
        takesDays("when covered;end;when caught 1;end;when on a;end;when gaps<1;end;when gaps>1;end;when gaps=1;end;", 6);
        String tests = "covered caught on gaps";
        form("when|" + STEPS, "covered|" + tests, ";|;", "end|end " + STEPS, ";|;", "any|" + STEPS);
        form("when|" + STEPS, "caught|" + tests, "2|NUMBER", ";|;", "end|end " + STEPS, ";|;", "any|" + STEPS);
        form("when|" + STEPS, "on|" + tests, "a|NAME", ";|;", "end|end " + STEPS, ";|;", "any|" + STEPS);
        for (String sign : List.of("<", ">", "=")) {
            form("when|" + STEPS, "gaps|" + tests, sign + "|< > =", "2|NUMBER", ";|;", "end|end " + STEPS, ";|;", "any|" + STEPS);
        }
    }

    /** A form is its tokens; behind each bar stands what may be in that place. */
    private void form(String... places) {
        String ahead = "";
        for (int i = 0; i < places.length; i++) {
            int bar = places[i].indexOf('|');
            Set<String> fit = Set.of(places[i].substring(bar + 1).split(" "));
            boolean mayEnd = fit.contains("stop") && !fit.contains("end");
            if (!mayEnd) {
                anew();
                begin();
                daysFault(ahead, 2, ahead.length());
                daysFault(ahead + "\n ", 2, ahead.length() + 2);
            }
            for (String token : List.of("b", "2", ";", "<", ">", "=", "abcdefghi")) {
                boolean fits = fit.contains(token) || token.equals("b") && fit.contains("NAME")
                        || token.equals("2") && fit.contains("NUMBER");
                misfit(ahead, token, fits);
            }
            for (String word : EdgesOfTexts.KEPT) {
                misfit(ahead, word, fit.contains(word));
            }
            ahead += places[i].substring(0, bar) + " ";
        }
    }

    private void misfit(String ahead, String token, boolean fits) {
        if (!fits) {
            anew();
            begin();
            daysFault(ahead + token, 2, ahead.length());
            daysFault(ahead + token + " ;", 2, ahead.length());
        }
    }

    private void ends() {
        term("FAULTS: 1, 2 as above (an end without a beginning; the text's end ahead of an end: 2).");
        begin();
        daysFault("any;\t", 1, 4);
        daysFault("loop 12345;", 1, 5);
        daysFault("end;", 2, 0);
        daysFault("loop 1;end;end;", 2, 11);
        daysFault("when covered;loop 1;end;end; end;", 2, 29);
        daysFault("loop 1;", 2, 7);
        daysFault("loop 1;any; ", 2, 12);
        daysFault("when covered;loop 1;end;", 2, 24);
        daysFault("when covered;loop 1;end; end", 2, 28);
        daysFault("on ninelette;", 2, 3);
    }

    private void namesOfClasses() {
        term("3 a NAME that is no CLASS.");
        begin();
        x.add(0, 2);
        daysFault("on f;", 3, 3);
        daysFault("off aa;", 3, 4);
        daysFault("split  ab 2;", 3, 7);
        daysFault("when on z;", 3, 8);
        takesDays("on a;off e;", 2);
        x.drop(0);
        daysFault("on a;", 3, 3);
        takesDays("on e;", 1);
        takes("", 0);
        daysFault("on e;", 3, 3);
        daysFault("split abcdefgh 2;", 3, 6);
        put("0/2+ 1/2+");
        for (char c = 'a'; c <= 'z'; c++) {
            daysFault("on " + c + ";", 3, 3);
        }
    }

    private void numbers() {
        term("shift: 0 to 59; split: by 2 to 7; caught: 0 to 9,999; gaps: how many there are, against 0 to 5,040;");
        begin();
        takesDays("shift 0;shift 59;split a 2;split a 7;", 4);
        takesDays("when caught 0;end;when caught 9999;end;when gaps<0;end;when gaps=5040;end;when gaps>5040;end;", 5);
        term("4 a NUMBER that can't be. 6 a 31st STEP");
        begin();
        daysFault("shift 60;", 4, 6);
        daysFault("shift 9999;", 4, 6);
        daysFault("split a 0;", 4, 8);
        daysFault("split a 1;", 4, 8);
        daysFault("split a 8;", 4, 8);
        daysFault("when caught 10000;", 1, 12);
        daysFault("when gaps<5041;", 4, 10);
        daysFault("when gaps=9999;", 4, 10);
        daysFault("when gaps >  5041;", 4, 13);
        daysFault("loop 0;", 4, 5);
        daysFault("loop 100;", 4, 5);
        term("loop n (1 to 99): as often.");
        begin();
        takesDays("loop 1;end;loop 99;end;", 2);
        daysFault("loop 0 ;end;", 4, 5);
        daysFault("loop 100 ;end;", 4, 5);
    }

    private void manySteps() {
        term("6 a 31st STEP (at its WORD; end is none).");
        begin();
        takesDays("any;".repeat(30), 30);
        takesDays("loop 2;end;".repeat(13) + "any;".repeat(17), 30);
        takesDays("any;".repeat(29) + "loop 2;end;", 30);
        takesDays("loop 1;end;".repeat(24) + "shift1;" + "any;".repeat(4) + "loop 9;end;", 30);
        gives("with as many ends as there is room for", x.live(0), 30);
        takesDays("loop 2;end;".repeat(22) + "loop 3;shift1;end;".repeat(3), 28);
        gives("each end has its own beginning", x.live(0), 22 + 3 * 4);
        gives("shifts", x.lived(3), 9);
        daysFault("any;".repeat(30) + " any;", 6, 121);
        for (String word : STEPS.split(" ")) {
            daysFault("any;".repeat(30) + word, 6, 120);
        }
        daysFault("any;".repeat(28) + "loop 2;loop 2;end; any;end;", 6, 131);
        daysFault("any;".repeat(30) + "end;", 2, 120);
    }

    private void deep() {
        term("7 a when, loop within three others (at its WORD).");
        begin();
        takesDays("loop 1;loop 1;loop 1;any;end;end;end;", 4);
        takesDays("when covered;when covered;when covered;any;end;end;end;", 4);
        takesDays("loop 1;loop 1;loop 1;end;loop 1;end;end;loop 1;loop 1;end;end;end;", 6);
        takesDays("loop 1;end;loop 1;end;loop 1;end;loop 1;end;", 4);
        daysFault("loop 1;loop 1;loop 1; loop 1;", 7, 22);
        daysFault("loop 1;loop 1;loop 1;when covered;", 7, 21);
        daysFault("when covered;loop 1;when covered;when", 7, 33);
        daysFault("loop 1;loop 1;loop 1;end;end;loop 1;loop 1;loop", 7, 43);
        daysFault("loop 1;loop 1;loop 1;end;loop 1;any;loop 1;", 7, 36);
    }

    private void faultOrder() {
        term("FAULTS: 1, 2 as above");
        begin();
        daysFault("shift 60; !", 4, 6);
        daysFault("! shift 60;", 1, 0);
        daysFault("on zz 1", 3, 3);
        daysFault("split zz 9", 3, 6);
        daysFault("loop 1;shift 60;", 4, 13);
        daysFault("on 12345", 1, 3);
        daysFault("shift 99999", 1, 6);
        daysFault("any;".repeat(30) + "!", 1, 120);
        daysFault("any;".repeat(30) + "zz", 2, 120);
        daysFault("loop 1;loop 1;loop 1;" + "any;".repeat(27) + "loop 1;", 6, 21 + 108);
        daysFault("loop 1;loop 1;loop 1;" + "any;".repeat(26) + "loop 1;", 7, 21 + 104);
    }

    private void daysCall() {
        promise(11, "Likewise the DAYS: how many STEPS (1: above 300, too; 9).");
        begin();
        refused("1 of nothing", x.days(1), 1);
        refused("-1 of nothing", x.days(-1), 1);
        gives("none of nothing", x.days(0), 0);
        feed("off a;off b;        ");
        refused("-1", x.days(-1), 1);
        refused("21", x.days(21), 1);
        refused("far below", x.days(FAR[0]), 1);
        refused("far above", x.days(FAR[1]), 1);
        gives("the tape was not touched", x.days(6), 1);
        refused("it is empty then", x.days(1), 1);
        gives("live", x.live(0), 1);
        gives("a alone is off", x.told(2), 30);
        feed("off b;".repeat(60));
        refused("301 of 360", x.days(301), 1);
        refused("300 of 360: a 31st step", x.days(300), 9);
        due("fault", x.fault(0), 6);
        due("place", x.fault(1), 180);
        refused("the tape is empty then, too", x.days(1), 1);
        gives("the old ones stay", x.live(0), 1);
        gives("a was off", x.lived(0), 1);
        takesDays("off c; stop; stop;", 3);
        gives("new ones are there in place of those ahead", x.live(0), 2);
        gives("c is off", x.told(2), 26);
    }
}
