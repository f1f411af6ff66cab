import java.util.ArrayList;
import java.util.List;
import java.util.Map;

/** An object is used for at most 512 calls: the last of them answers as the first, and nothing piles up inside. */
public final class LastingTests {
    private static final int BAD_ARG = -1;
    private static final int FULL = -2;
    private static final int NONE = -4;
    private static final int CALLS = 512;
    private static final int BEGIN = 171;
    private static final int END = 163;
    private static final Check CHECK = new Check("LastingTests");

    private static final String[] PROGRAMS = {
        "begin ; put ( + a ) ; h := ( h + 1 ) * 2 ; m [ 15 ] := m [ ( 0 ) ] ; end",
        "proc p0 ( a ) var b begin if a > 0 then b := a + p0 ( a - 1 ) ; put b end ; return b end begin a := p0 ( 9 ) end",
        "proc p0 ( a ) begin return p0 ( a ) end begin m [ 7 ] := 7 ; put 5 + p0 ( 1 ) end",
        "begin repeat put a ; a := a + 1 ; m [ a ] := a until 0 end",
        "begin while 1 do a := a + 1 end end",
        "begin put 3 ; put 1 / ( a - a ) end",
        "begin put ( a ) ; p0 ( 1 ) end",
        "begin put ( 1",
        "begin put 1 2 end",
    };

    public static void main(String[] args) {
        CHECK.about("What it is: an object is used for at most 512 calls");
        sameQuestionToTheLast();
        allQuestionsInTurn();
        tokenAndUntoken();
        fourAndClear();
        setAndCell();
        refusedToTheLast();
        CHECK.about("Promise 5: the text is empty from now on");
        nothingPilesUpFromBrokenOffTexts();
        CHECK.about("Terms: a run begins with the globals and cells as they were set");
        nothingPilesUpFromRuns();
        CHECK.finish();
    }

    private static int writing(String words) {
        return (Check.tokens(words).length + 3) / 4;
    }

    private static void sameQuestionToTheLast() {
        for (String program : PROGRAMS) {
            for (Map.Entry<String, Call> question : Call.questions().entrySet()) {
                LittleCompiler x = Check.written(Check.tokens(program));
                int want = question.getValue().on(x);
                for (int call = writing(program) + 2; call <= CALLS; call++) {
                    String what = question.getKey() + " in call " + call + " of " + program;
                    CHECK.due(what, question.getValue().on(x), want);
                }
            }
        }
    }

    private static void allQuestionsInTurn() {
        for (String program : PROGRAMS) {
            List<Map.Entry<String, Call>> questions = new ArrayList<>(Call.questions().entrySet());
            LittleCompiler x = Check.written(Check.tokens(program));
            for (int call = writing(program) + 1; call <= CALLS; call++) {
                Map.Entry<String, Call> question = questions.get(call * 7 % questions.size());
                int want = question.getValue().on(Check.written(Check.tokens(program)));
                CHECK.due(question.getKey() + " in call " + call + " of " + program, question.getValue().on(x), want);
            }
        }
    }

    private static void tokenAndUntoken() {
        LittleCompiler x = new LittleCompiler();
        for (int call = 1; call <= 150; call++) {
            CHECK.due("token in call " + call, x.token(call % 100), call);
        }
        for (int call = 151; call <= 300; call++) {
            CHECK.due("untoken in call " + call, x.untoken(), (301 - call) % 100);
        }
        for (int call = 301; call < CALLS - 1; call += 2) {
            CHECK.due("token in call " + call, x.token(call % 100), 1);
            CHECK.due("untoken in call " + (call + 1), x.untoken(), call % 100);
        }
        CHECK.due("token in call 511", x.token(BEGIN), 1);
        CHECK.due("token in call 512", x.token(END), 2);
        LittleCompiler y = new LittleCompiler();
        for (int call = 1; call <= CALLS; call++) {
            CHECK.due("untoken of nothing in call " + call, y.untoken(), NONE);
        }
    }

    private static void fourAndClear() {
        LittleCompiler x = new LittleCompiler();
        for (int call = 1; call + 2 <= CALLS; call += 3) {
            CHECK.due("four in call " + call, x.four(BEGIN, 169, call % 100, END), 4);
            CHECK.due("output in call " + (call + 1), x.output(0), call % 100);
            x.clear();
        }
        CHECK.due("tokens in call 511", x.tokens(), 0);
        CHECK.due("wrongAt in call 512", x.wrongAt(), 0);
        LittleCompiler y = new LittleCompiler();
        for (int call = 1; call < CALLS; call++) {
            y.clear();
        }
        CHECK.due("four in call 512", y.four(-1, BEGIN, -1, END), 2);
    }

    private static void setAndCell() {
        LittleCompiler x = Check.written(new int[] {BEGIN, END});
        for (int call = 2; call + 1 <= CALLS; call += 2) {
            CHECK.due("set in call " + call, x.set(call / 2 % 8, call), 0);
            CHECK.due("global in call " + (call + 1), x.global(call / 2 % 8), call);
        }
        CHECK.due("global in call 512", x.global(7), 510);
        LittleCompiler y = Check.written(new int[] {BEGIN, END});
        for (int call = 2; call + 1 <= CALLS; call += 2) {
            CHECK.due("cell in call " + call, y.cell(call / 2 % 16, -call), 0);
            CHECK.due("cellAfter in call " + (call + 1), y.cellAfter(call / 2 % 16), -call);
        }
        CHECK.due("cellAfter in call 512", y.cellAfter(15), -510);
    }

    private static void refusedToTheLast() {
        LittleCompiler full = Check.written(Check.tokens(Check.repeated("begin", 150)));
        for (int call = 39; call + 6 <= CALLS; call += 6) {
            CHECK.due("token when full, call " + call, full.token(1), FULL);
            CHECK.due("four when full, call " + (call + 1), full.four(-1, -1, 1, -1), FULL);
            CHECK.due("no token, call " + (call + 2), full.token(109), BAD_ARG);
            CHECK.due("set, call " + (call + 3), full.set(8, 1), BAD_ARG);
            CHECK.due("cell, call " + (call + 4), full.cell(16, 1), BAD_ARG);
            CHECK.due("prepare, call " + (call + 5), full.prepare(9, 1), BAD_ARG);
        }
        CHECK.due("tokens", full.tokens(), 150);
        LittleCompiler x = new LittleCompiler();
        for (int call = 1; call <= CALLS; call++) {
            CHECK.due("prepare in call " + call, x.prepare(4 + call % 5, call % 3), 0);
        }
    }

    private static String[] brokenOff() {
        return new String[] {
            "begin put " + Check.repeated("1 + (", 48),
            "begin put " + Check.repeated("1 + 2 * (", 28),
            "begin put " + Check.repeated("(", 140),
            "begin put - " + Check.repeated("~", 140),
            "begin put " + Check.repeated("( -", 70),
            "begin put " + Check.repeated("m [", 70),
            "begin put " + Check.repeated("p0 ( 1 < 2 ,", 23),
            "begin " + Check.repeated("repeat", 145),
            "begin " + Check.repeated("while 1 do", 48),
            "begin " + Check.repeated("if 1 then", 48),
            "begin if 1 then" + Check.repeated(" elsif 1 then", 48),
            "begin " + Check.repeated("p1 ( ) ;", 36),
            "proc p0 ( a" + Check.repeated(" , a", 72),
            "proc p0 ( ) var a" + Check.repeated(" , b", 70),
            Check.repeated("proc p1 ( a ) begin end", 20) + "begin p1 ( ) ; 5",
            "begin " + Check.repeated("; put ( + 1 )", 24) + "; end )",
        };
    }

    /** The text is read again and again without ever being ended, before another one takes its place. */
    private static void nothingPilesUpFromBrokenOffTexts() {
        String[] programs = {PROGRAMS[0], PROGRAMS[1], PROGRAMS[6], "begin put ( - a ) + ( b ) * ( c + 1 ) end",
            "begin put " + Check.repeated("( 1 -", 36) + "1 " + Check.repeated(")", 36) + "end"};
        for (String before : brokenOff()) {
            for (String program : programs) {
                int[] tokens = Check.tokens(program);
                LittleCompiler x = Check.written(Check.tokens(before));
                int left = CALLS - writing(before) - 1 - writing(program) - Everything.MOST_CALLS;
                for (int call = 4; call <= left; call += 4) {
                    x.token(1);
                    x.wrongAt();
                    x.untoken();
                    x.wrongAt();
                }
                x.clear();
                Check.append(x, tokens);
                String difference = new Everything(x).differenceFrom(new Everything(Check.written(tokens)));
                CHECK.holds(program + " behind " + before + ": " + difference, difference.isEmpty());
            }
        }
    }

    /** Each run ends in the middle of something: the next begins as if there had been none. */
    private static void nothingPilesUpFromRuns() {
        String[] programs = {
            "proc p0 ( a ) var b begin b := a ; put b ; return a * 2 + p0 ( a + 1 ) end begin c := 5 + p0 ( 1 ) end",
            "proc p0 ( a ) begin m [ a ] := a ; if a = 9 then b := 1 / 0 end ; return 1 + 2 * p0 ( a + 1 ) end"
                + " begin put 7 ; c := 3 - p0 ( 1 ) end",
            "begin repeat a := a + 1 ; m [ a ] := a ; put a until a < 0 end",
            "proc p0 ( ) begin while 1 do a := a + 1 end end begin put 1 + ( 2 + ( 3 + p0 ( ) ) ) end",
            "proc p0 ( ) begin return 1 end begin return 1 + ( 2 + p0 ( ) ) end",
        };
        for (String program : programs) {
            int[] tokens = Check.tokens(program);
            LittleCompiler x = Check.written(tokens);
            int left = CALLS - writing(program) - Everything.MOST_CALLS;
            for (int call = 2; call <= left; call += 2) {
                x.set(7, 0);
                x.run();
            }
            String difference = new Everything(x).differenceFrom(new Everything(Check.written(tokens)));
            CHECK.holds(program + " behind many runs: " + difference, difference.isEmpty());
        }
    }
}
