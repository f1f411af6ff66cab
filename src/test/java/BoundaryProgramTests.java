/** The boundaries of programs: where a text stops being one, where its faults stand, and what its plain form leaves out. */
public final class BoundaryProgramTests {
    private static final int NONE = -4;
    private static final int WRONG = -5;
    private static final int HALTED = 0;
    private static final int LEAST = Integer.MIN_VALUE;
    private static final int MOST = Integer.MAX_VALUE;

    private static final Check CHECK = new Check("BoundaryProgramTests");

    public static void main(String[] args) {
        numbersOfWrongTokens();
        theTokenItselfCounts();
        longerProgramsCount();
        partsThatMayBeMissing();
        partsThatMayComeOnce();
        partsThatMayComeOften();
        fullTextsThatArePrograms();
        faultsOfProcs();
        faultsOfNames();
        faultsOfUnknownCalls();
        faultsOfCounts();
        firstFault();
        faultsOfNoPrograms();
        plainNumbers();
        plainOfFullTexts();
        plainOfFaultyPrograms();
        plainSigns();
        plainBrackets();
        plainSemicolons();
        plainLeavesTheText();
        CHECK.finish();
    }

    private static void due(String call, int got, int want) {
        CHECK.due(call, got, want);
    }

    private static LittleCompiler text(String words) {
        return Check.written(Check.tokens(words.replace("|", " ")));
    }

    /** The number of tokens before the stroke; NONE without one. */
    private static int stroke(String words) {
        int at = words.indexOf('|');
        return at < 0 ? NONE : Check.tokens(words.substring(0, at)).length;
    }

    /** The stroke stands before the token that is wrong. */
    private static void wrongAt(String words) {
        due("wrongAt of " + words, text(words).wrongAt(), stroke(words));
    }

    private static void fault(String words) {
        LittleCompiler x = text(words);
        int want = stroke(words);
        due("wrongAt of " + words, x.wrongAt(), NONE);
        due("fault of " + words, x.fault(), want);
        CHECK.holds("run of " + words, (x.run() == WRONG) == (want != NONE));
    }

    private static void plain(String words, String want) {
        LittleCompiler x = text(words);
        due("plainSize of " + words, x.plainSize(), Check.tokens(want).length);
        String got = Check.plain(x);
        CHECK.holds("plain form of " + words + " is " + want + " and not " + got, got.equals(want));
    }

    private static void put(String expression, String want) {
        plain("begin put " + expression + " end", "begin put " + want + " end");
    }

    private static void numbersOfWrongTokens() {
        CHECK.about("Promise 7: 0 is the first");
        wrongAt("| end");
        wrongAt("| 0");
        wrongAt("| end begin end");
        wrongAt("| ; begin end");
        CHECK.about("Promise 7: the number of the first token");
        wrongAt("begin | begin ) ) end");
        wrongAt("begin end | begin end");
        wrongAt("begin put 1 | 2 3 4 end");
        String full = "begin put 1 " + Check.repeated("+ 1", 73);
        due("the last of 150", text(full + "until").wrongAt(), 149);
        due("the last but one", text("begin put 1 " + Check.repeated("+ 1", 72) + "end end end").wrongAt(), 148);
        CHECK.about("Promise 7: the number of tokens if there is no such token but the text is no program");
        wrongAt("|");
        wrongAt("begin |");
        wrongAt("proc |");
        wrongAt("proc p0 ( ) begin end |");
        wrongAt("begin put 1 |");
        wrongAt("begin put 1 ; |");
        due("149 tokens", text(full).wrongAt(), 149);
        due("150 tokens", text(full + "+").wrongAt(), 150);
        CHECK.about("Promise 7: NONE if it is a program");
        wrongAt("begin end");
        due("150 tokens", text(full + "end").wrongAt(), NONE);
        CHECK.about("Promise 7: each beginning of a program");
        int[] whole = Check.tokens("proc p0 ( a , b ) var c begin return a end begin if m [ 1 ] = - 2 then put ~ 3 elsif 4"
            + " then else a := ( 5 ) end ; while 0 do end ; repeat p0 ( 1 , 2 ) until 1 end");
        LittleCompiler x = new LittleCompiler();
        for (int i = 0; i < whole.length; i++) {
            due("the first " + i, x.wrongAt(), i);
            x.token(whole[i]);
        }
        due("all", x.wrongAt(), NONE);
        for (int i = whole.length - 1; i >= 0; i--) {
            x.untoken();
            due("the first " + i + " again", x.wrongAt(), i);
        }
    }

    private static void theTokenItselfCounts() {
        CHECK.about("Promise 21: the token itself counts among the tokens up to it");
        wrongAt("begin end | end");
        wrongAt("begin | )");
        wrongAt("begin put | )");
        wrongAt("begin put 1 < 2 | < 3 end");
        wrongAt("begin a | a");
        wrongAt("proc | proc");
        LittleCompiler x = text("begin put 1");
        due("before it", x.wrongAt(), 3);
        x.token(1);
        due("with it", x.wrongAt(), 3);
        x.token(163);
        due("with more behind it", x.wrongAt(), 3);
        x.untoken();
        x.untoken();
        x.token(163);
        due("without it", x.wrongAt(), NONE);
    }

    private static void longerProgramsCount() {
        CHECK.about("Promise 21: programs of any length count, also longer ones than 150 tokens");
        for (int n = 70; n <= 148; n++) {
            wrongAt("begin put " + Check.repeated("(", n) + "|");
            wrongAt("begin put " + Check.repeated("~", n) + "|");
            wrongAt("begin " + Check.repeated("repeat", n) + "|");
        }
        for (int n = 30; n <= 49; n++) {
            wrongAt("begin " + Check.repeated("while 1 do", n) + "|");
            wrongAt("begin " + Check.repeated("if 1 then", n) + "|");
            wrongAt("begin put " + Check.repeated("p0 ( 1 ,", n - 13) + "|");
            wrongAt("begin put " + Check.repeated("m [", n) + "|");
        }
        wrongAt("begin put " + Check.repeated("(", 147) + "| )");
        wrongAt("begin put " + Check.repeated("(", 146) + "1 | end");
        wrongAt("begin " + Check.repeated("repeat", 148) + "| end");
        wrongAt("begin " + Check.repeated("while 1 do", 49) + " ; |");
        wrongAt("begin " + Check.repeated("while 1 do", 49) + "| until");
        wrongAt("begin put " + Check.repeated("m [", 73) + "| ]");
        wrongAt(Check.repeated("proc p0 ( ) begin end", 25) + "|");
        wrongAt("proc p0 ( a" + Check.repeated(" , a", 73) + "|");
    }

    private static void partsThatMayBeMissing() {
        CHECK.about("Terms, the grammar: { } any number of times, also none; [ ] once or not");
        wrongAt("begin end");
        wrongAt("begin ; end");
        wrongAt("begin ; ; end");
        wrongAt("proc p0 ( ) begin end begin end");
        wrongAt("proc p0 ( a ) begin end begin end");
        wrongAt("proc p0 ( a , b ) begin end begin end");
        wrongAt("proc p0 ( ) var a begin end begin end");
        wrongAt("proc p0 ( ) var a , b begin end begin end");
        wrongAt("proc p0 ( ) var | begin end begin end");
        wrongAt("proc p0 ( ) var a , | begin end begin end");
        wrongAt("proc p0 ( a , | ) begin end begin end");
        wrongAt("begin p0 ( ) ; p0 ( 1 ) ; p0 ( 1 , 2 ) end");
        wrongAt("begin put p0 ( ) + p0 ( 1 ) + p0 ( 1 , 2 ) end");
        wrongAt("begin p0 ( 1 , | ) end");
        wrongAt("begin if 1 then end end");
        wrongAt("begin if 1 then elsif 2 then end end");
        wrongAt("begin if 1 then elsif 2 then elsif 3 then end end");
        wrongAt("begin if 1 then else end end");
        wrongAt("begin if 1 then elsif 2 then else end end");
        wrongAt("begin while 1 do end end");
        wrongAt("begin repeat until 1 end");
        wrongAt("begin put 1 end");
        wrongAt("begin put + 1 end");
        wrongAt("begin put - 1 end");
        wrongAt("begin put 1 = 2 end");
        CHECK.about("Terms, the grammar: what may not be missing");
        wrongAt("begin put | end");
        wrongAt("begin put | ; put 1 end");
        wrongAt("begin return | end");
        wrongAt("begin return | ; end");
        wrongAt("begin a := | end");
        wrongAt("begin m [ | ] := 1 end");
        wrongAt("begin m [ 1 ] := | end");
        wrongAt("begin while | do end end");
        wrongAt("begin repeat until | end");
        wrongAt("begin if | then end end");
        wrongAt("begin if 1 then elsif | then end end");
        wrongAt("begin put ( | ) end");
        wrongAt("begin put 1 + | end");
        wrongAt("begin put 1 = | end");
        wrongAt("begin put ~ | end");
        wrongAt("begin put - | end");
        wrongAt("proc p0 | begin end begin end");
        wrongAt("proc | ( ) begin end begin end");
    }

    private static void partsThatMayComeOnce() {
        CHECK.about("Terms, the grammar: [ ] once");
        wrongAt("proc p0 ( ) var a | var b begin end begin end");
        wrongAt("proc p0 ( ) | ( ) begin end begin end");
        wrongAt("begin if 1 then else | else end end");
        wrongAt("begin if 1 then else | elsif 2 then end end");
        wrongAt("begin put - | - 1 end");
        wrongAt("begin put + | + 1 end");
        wrongAt("begin put 1 + | + 1 end");
        wrongAt("begin put 1 or | - 1 end");
        wrongAt("begin put 1 & | - 1 end");
        wrongAt("begin put ~ | + 1 end");
        wrongAt("begin put 1 < - 1 end");
        wrongAt("begin put 1 < - | - 1 end");
        wrongAt("begin put 1 = 2 | = 3 end");
        wrongAt("begin put 1 = 2 + 3 | >= 3 end");
        wrongAt("begin put 1 = ( 2 = 3 ) end");
        wrongAt("begin put m [ 1 = 2 ] = p0 ( 3 = 4 , 5 = 6 ) end");
        wrongAt("begin end | begin end");
        wrongAt("begin end | proc p0 ( ) begin end");
    }

    private static void partsThatMayComeOften() {
        CHECK.about("Terms, the grammar: { } any number of times");
        wrongAt(Check.repeated("proc p0 ( ) begin end", 24) + "begin end");
        wrongAt("proc p0 ( a" + Check.repeated(" , a", 70) + " ) begin end begin end");
        wrongAt("proc p0 ( ) var a" + Check.repeated(" , a", 69) + " begin end begin end");
        wrongAt("begin p0 ( 1" + Check.repeated(" , 1", 72) + " ) end");
        wrongAt("begin " + Check.repeated(";", 148) + "end");
        wrongAt("begin if 1 then" + Check.repeated(" elsif 1 then", 48) + " end end");
        wrongAt("begin put 1 " + Check.repeated("* 1", 73) + "end");
        wrongAt("begin put 1 " + Check.repeated("or 1", 73) + "end");
        wrongAt("begin put " + Check.repeated("~", 146) + "1 end");
    }

    private static void runsTo(String words, int want) {
        LittleCompiler x = text(words);
        due("tokens of " + words, x.tokens(), 150);
        due("wrongAt of " + words, x.wrongAt(), NONE);
        due("fault of " + words, x.fault(), NONE);
        due("run of " + words, x.run(), HALTED);
        due("output of " + words, x.output(0), want);
    }

    private static void fullTextsThatArePrograms() {
        CHECK.about("Terms: a text of at most 150 tokens");
        runsTo("begin put 1 " + Check.repeated("+ 1", 73) + "end", 74);
        runsTo("begin put 1 " + Check.repeated("- 1", 73) + "end", -72);
        runsTo("begin put 1 " + Check.repeated("& 1", 73) + "end", 1);
        runsTo("begin put 0 " + Check.repeated("or 0", 72) + "or 7 end", 1);
        runsTo("begin put ~ " + Check.repeated("(", 72) + "5 " + Check.repeated(")", 72) + "; end", 0);
        runsTo("begin put " + Check.repeated("~", 146) + "5 end", 1);
        runsTo("begin put " + Check.repeated("1 - (", 36) + "9 + 1 " + Check.repeated(")", 36) + "end", 10);
        runsTo("begin put " + Check.repeated("m [", 48) + "7 " + Check.repeated("]", 48) + "+ 6 end", 6);
        runsTo("begin " + Check.repeated("repeat", 48) + "put 3 " + Check.repeated("until 1", 48) + "; ; end", 3);
        runsTo("begin " + Check.repeated("while 1 do", 35) + "put 4 ; return 0 " + Check.repeated("end", 35) + "; ; ; end",
            4);
        runsTo("begin " + Check.repeated("if 1 then", 36) + "put 4 " + Check.repeated("end", 36) + "; ; end", 4);
        runsTo("proc p0 ( a ) begin return a + 1 end begin put " + Check.repeated("p0 (", 45) + "1 "
            + Check.repeated(")", 45) + "end", 46);
        runsTo("begin put 8 " + Check.repeated("; a := 1", 36) + "; ; end", 8);
        runsTo("begin if 0 then" + Check.repeated(" elsif 0 then", 46) + " else put 9 end ; ; ; end", 9);
    }

    private static void faultsOfProcs() {
        CHECK.about("Terms: a procedure name behind proc that stood behind an earlier proc");
        fault("proc p0 ( ) begin end proc p1 ( ) begin end proc p2 ( ) begin end proc p3 ( ) begin end begin end");
        for (int p = 0; p <= 3; p++) {
            String name = " p" + p;
            fault("proc" + name + " ( ) begin end begin end");
            fault("proc" + name + " ( ) begin end proc |" + name + " ( ) begin end begin end");
        }
        fault("proc p0 ( ) begin end proc p1 ( ) begin end proc | p0 ( ) begin end begin end");
        fault("proc p0 ( ) begin end proc | p0 ( ) begin end proc p0 ( ) begin end begin end");
        fault("proc p3 ( ) begin end proc p2 ( ) begin end proc p1 ( ) begin end proc p0 ( ) begin end proc | p2 ( ) begin"
            + " end begin end");
        fault("proc p0 ( ) begin p0 ( ) end begin p0 ( ) end");
    }

    private static void faultsOfNames() {
        CHECK.about("Terms: a name in the lists that stands earlier in the lists of the same proc");
        for (char name = 'a'; name <= 'h'; name++) {
            fault("proc p0 ( " + name + " , | " + name + " ) begin end begin end");
            fault("proc p0 ( " + name + " ) var | " + name + " begin end begin end");
            fault("proc p0 ( ) var " + name + " , | " + name + " begin end begin end");
            fault("proc p0 ( " + name + " ) begin end proc p1 ( " + name + " ) begin end begin " + name + " := 1 end");
            fault("proc p0 ( ) var " + name + " begin end proc p1 ( ) var " + name + " begin end begin end");
            fault("proc p0 ( " + name + " ) begin end proc p1 ( ) var " + name + " begin end begin end");
        }
        fault("proc p0 ( a , b , c , d ) var e , f , g , h begin end begin end");
        fault("proc p0 ( a , b , c , d ) var e , f , g , h , | a begin end begin end");
        fault("proc p0 ( a , b , c , d , e , f , g , h ) begin end begin end");
        fault("proc p0 ( a , b , c , d , e , f , g , h , | h ) begin end begin end");
        fault("proc p0 ( a , b , c , d , e , f , g , h ) var | d begin end begin end");
        fault("proc p0 ( a , b , | a , b , a ) var a begin end begin end");
        fault("proc p0 ( a ) begin a := a ; a := a end begin a := a end");
    }

    private static void faultsOfUnknownCalls() {
        CHECK.about("Terms: the procedure name of a call that stands behind no proc");
        for (int p = 0; p <= 3; p++) {
            String name = " p" + p;
            fault("begin |" + name + " ( ) end");
            fault("begin put |" + name + " ( ) end");
            fault("proc" + name + " ( ) begin end begin" + name + " ( ) end");
            fault("proc p" + (p + 1) % 4 + " ( ) begin end begin |" + name + " ( ) end");
        }
        fault("proc p0 ( ) begin | p1 ( ) end begin end");
        fault("begin a := 1 + | p0 ( ) end");
        fault("begin m [ | p0 ( ) ] := 1 end");
        fault("begin m [ 1 ] := | p0 ( ) end");
        fault("begin put m [ | p0 ( ) ] end");
        fault("begin while | p0 ( ) do end end");
        fault("begin repeat until | p0 ( ) end");
        fault("begin if 0 then elsif | p0 ( ) then end end");
        fault("begin return ~ ( - | p0 ( ) ) end");
        CHECK.about("Promise 21: behind a proc anywhere in the text");
        fault("proc p0 ( ) begin p1 ( ) end proc p1 ( ) begin end begin end");
        fault("proc p0 ( ) begin p1 ( ) ; p2 ( ) ; p3 ( 1 ) end proc p1 ( ) begin end proc p2 ( ) begin end proc p3 ( a )"
            + " begin end begin end");
    }

    /** A proc with so many names, the first eight of them apart. */
    private static String names(int count) {
        StringBuilder all = new StringBuilder();
        for (int i = 0; i < count; i++) {
            all.append(i == 0 ? "" : ", ").append((char) ('a' + i % 8)).append(' ');
        }
        return all.toString();
    }

    private static String values(int count) {
        StringBuilder all = new StringBuilder();
        for (int i = 0; i < count; i++) {
            all.append(i == 0 ? "" : ", ").append(i + 1).append(' ');
        }
        return all.toString();
    }

    private static void faultsOfCounts() {
        CHECK.about("Terms: whose number of expressions is not that of the names in the brackets");
        for (int due = 0; due <= 8; due++) {
            for (int given = 0; given <= 10; given++) {
                String mark = due == given ? "" : "| ";
                String head = "proc p0 ( " + names(due) + ") begin end ";
                fault(head + "begin " + mark + "p0 ( " + values(given) + ") end");
                fault(head + "begin put 1 + " + mark + "p0 ( " + values(given) + ") end");
                fault("proc p1 ( ) begin " + mark + "p0 ( " + values(given) + ") end " + head + "begin end");
                fault("proc p0 ( " + names(due) + ") begin " + mark + "p0 ( " + values(given) + ") end begin end");
            }
        }
        for (int due = 9; due <= 12; due++) {
            for (int given = 7; given <= 13; given++) {
                boolean fits = due == given;
                fault("proc p1 ( ) begin " + (fits ? "" : "| ") + "p0 ( " + values(given) + ") end proc p0 ( " + names(8)
                    + (fits ? ", | " : ", ") + names(due - 8) + ") begin end begin end");
            }
        }
        fault("proc p0 ( a ) var b , c begin end begin p0 ( 1 ) end");
        fault("proc p0 ( a ) var b , c begin end begin | p0 ( 1 , 2 ) end");
        fault("proc p0 ( ) var a begin end begin | p0 ( 1 ) end");
        fault("proc p0 ( a , b ) begin end begin p0 ( p0 ( 1 , 2 ) , p0 ( 3 , p0 ( 4 , 5 ) ) ) end");
        fault("proc p0 ( a , b ) begin end begin p0 ( p0 ( 1 , 2 ) , p0 ( 3 , | p0 ( 4 ) ) ) end");
        fault("proc p0 ( a , b ) begin end begin p0 ( p0 ( 1 , 2 ) , | p0 ( 3 , p0 ( 4 , 5 ) , 6 ) ) end");
        fault("proc p0 ( a ) begin end begin p0 ( ( 1 ) ) ; p0 ( - 1 < 2 ) ; p0 ( m [ 1 ] ) end");
        CHECK.about("Terms: behind its (first) proc");
        fault("proc p0 ( a ) begin end proc | p0 ( ) begin end begin p0 ( 1 ) end");
        fault("proc p1 ( ) begin | p0 ( ) end proc p0 ( a ) begin end proc p0 ( ) begin end begin end");
        fault("proc p1 ( ) begin p0 ( 1 ) end proc p0 ( a ) begin end proc | p0 ( ) begin end begin end");
        fault("proc p1 ( ) begin p0 ( 1 ) end proc p0 ( a ) begin end proc | p0 ( b , c ) begin end begin end");
        fault("proc p1 ( ) begin p0 ( 1 ) end proc p0 ( a ) var b begin end proc | p0 ( c ) var d begin end begin end");
        fault("proc p1 ( ) begin | p0 ( 1 , 2 ) end proc p0 ( a ) begin end proc p0 ( b , c ) begin end begin end");
        fault("proc p1 ( ) begin | p0 ( 1 , 2 ) end proc p0 ( a ) begin end proc p0 ( b ) begin end begin end");
        fault("proc p1 ( ) begin p0 ( ) end proc p0 ( ) begin end proc p2 ( ) begin end proc | p0 ( a ) begin end begin"
            + " p2 ( 1 ) end");
        fault("proc p1 ( ) begin p2 ( ) end proc p0 ( ) begin end proc p2 ( ) begin end proc | p0 ( a ) begin end begin"
            + " p0 ( ) end");
    }

    private static void firstFault() {
        CHECK.about("Promise 8: the number of the first token with a fault");
        fault("begin | p0 ( ) ; p1 ( ) end");
        fault("begin | p0 ( p1 ( ) ) end");
        fault("proc p0 ( ) begin | p0 ( 1 ) end proc p0 ( a , a ) begin end begin p1 ( ) end");
        fault("proc p0 ( a , | a ) begin p1 ( ) end proc p0 ( ) begin end begin p2 ( ) end");
        fault("proc p0 ( ) begin end proc | p0 ( a , a ) begin p1 ( ) end begin end");
        due("the first token that can have one", text("begin p0 ( ) end").fault(), 1);
        due("the second name of the first proc", text("proc p0 ( a , a ) begin end begin end").fault(), 5);
        String long143 = "begin put 1 " + Check.repeated("+ 1", 70);
        due("one of the last of 150 tokens", text(long143 + "; p0 ( ) ; end").fault(), 144);
        due("and that text is a program", text(long143 + "; p0 ( ) ; end").wrongAt(), NONE);
        CHECK.about("Promise 8: NONE if there is none");
        fault("begin end");
        due("none in 150 tokens", text(long143 + "+ 1 + 1 + 1 end").fault(), NONE);
    }

    private static void faultsOfNoPrograms() {
        CHECK.about("Promise 8: WRONG if the text is no program");
        for (String words : new String[] {"", "begin", "end", "begin p0 ( )", "begin p0 ( ) end end",
            "proc p0 ( a , a ) begin end", "proc p0 ( ) begin end proc p0 ( ) begin end"}) {
            due("fault of " + words, text(words).fault(), WRONG);
        }
        LittleCompiler x = text("begin p0 ( )");
        due("before its end", x.fault(), WRONG);
        x.token(163);
        due("with its end", x.fault(), 1);
        x.token(163);
        due("with too many", x.fault(), WRONG);
    }

    private static void plainNumbers() {
        CHECK.about("Promise 19: NONE if there is none");
        LittleCompiler x = text("begin put ( + 5 ) ; end");
        due("plainSize", x.plainSize(), 4);
        due("plain 0", x.plain(0), 171);
        due("plain 1", x.plain(1), 169);
        due("plain 2", x.plain(2), 5);
        due("plain 3", x.plain(3), 163);
        for (int i : new int[] {LEAST, -150, -1, 4, 5, 7, 8, 149, 150, MOST}) {
            due("plain " + i, x.plain(i), NONE);
        }
        due("the number 0 is a token", text("begin put 0 end").plain(2), 0);
        CHECK.about("Promise 18: WRONG if the text is no program; Promise 19: NONE, or the text is no program");
        for (String words : new String[] {"", "begin", "end", "begin put ( 1 )", "begin put ( 1 ) end end", "begin put ( 1 end"}) {
            due("plainSize of " + words, text(words).plainSize(), WRONG);
            for (int i : new int[] {LEAST, -1, 0, 1, 149, 150, MOST}) {
                due("plain " + i + " of " + words, text(words).plain(i), NONE);
            }
        }
        due("the least program", text("begin end").plainSize(), 2);
    }

    private static void plainOfFullTexts() {
        CHECK.about("Promise 18: the number of tokens of the plain form, of 150 tokens");
        LittleCompiler full = text("begin put 1 " + Check.repeated("+ 1", 73) + "end");
        due("nothing to leave out", full.plainSize(), 150);
        due("plain 0", full.plain(0), 171);
        due("plain 148", full.plain(148), 1);
        due("plain 149", full.plain(149), 163);
        due("plain 150", full.plain(150), NONE);
        plain("begin " + Check.repeated(";", 148) + "end", "begin end");
        plain("begin put " + Check.repeated("(", 73) + "1 " + Check.repeated(")", 73) + "end", "begin put 1 end");
        plain("begin put " + Check.repeated("( +", 48) + "1 " + Check.repeated(")", 48) + "+ 1 end", "begin put 1 + 1 end");
        plain("begin put " + Check.repeated("( -", 48) + "1 " + Check.repeated(")", 48) + "; ; end",
            "begin put " + Check.repeated("- (", 47) + "- 1 " + Check.repeated(")", 47) + "end");
        plain("begin put " + Check.repeated("1 - (", 36) + "9 + 1 " + Check.repeated(")", 36) + "end",
            "begin put " + Check.repeated("1 - (", 36) + "9 + 1 " + Check.repeated(")", 36) + "end");
        plain("begin put " + Check.repeated("(", 36) + "9 + 1 " + Check.repeated(") - 1", 36) + "end",
            "begin put 9 + 1 " + Check.repeated("- 1", 36) + "end");
        plain("begin put " + Check.repeated("~ (", 48) + "1 " + Check.repeated(")", 48) + "; ; end",
            "begin put " + Check.repeated("~", 48) + "1 end");
        plain("begin put " + Check.repeated("m [ (", 29) + "7 " + Check.repeated(") ]", 29) + "end",
            "begin put " + Check.repeated("m [", 29) + "7 " + Check.repeated("]", 29) + "end");
    }

    private static void plainOfFaultyPrograms() {
        CHECK.about("Promise 18: faults do not matter");
        plain("begin p0 ( ( 1 ) ) ; end", "begin p0 ( 1 ) end");
        plain("proc p0 ( a , a ) begin ; end begin ; end", "proc p0 ( a , a ) begin end begin end");
        plain("proc p0 ( ) begin end proc p0 ( ) begin ; put ( + 1 ) end begin end",
            "proc p0 ( ) begin end proc p0 ( ) begin put 1 end begin end");
        plain("proc p0 ( a ) begin end begin p0 ( ) ; ; p0 ( + 1 , ( 2 ) ) end",
            "proc p0 ( a ) begin end begin p0 ( ) ; p0 ( 1 , 2 ) end");
        due("token 0", text("begin p0 ( ( 1 ) ) end").plain(0), 171);
        due("token 3", text("begin p0 ( ( 1 ) ) end").plain(3), 1);
    }

    private static void plainSigns() {
        CHECK.about("Terms, the plain form: tokens +, which are signs");
        put("+ 1", "1");
        put("- 1", "- 1");
        put("1 + 1", "1 + 1");
        put("+ 1 + 1", "1 + 1");
        put("1 = + 1", "1 = 1");
        put("+ 1 = + 1", "1 = 1");
        put("m [ + 1 ]", "m [ 1 ]");
        put("p0 ( + 1 , + 2 )", "p0 ( 1 , 2 )");
        put("2 * ( + 1 )", "2 * 1");
        put("2 - ( + 1 + 3 )", "2 - ( 1 + 3 )");
        put("+ ( - ( + 1 ) )", "- 1");
        put("- ( - 1 )", "- ( - 1 )");
        plain("begin a := + 1 ; m [ + 1 ] := + 2 ; return + 3 end", "begin a := 1 ; m [ 1 ] := 2 ; return 3 end");
        plain("begin while + a do end ; repeat until + a ; if + a then elsif + b then end ; p0 ( + a ) end",
            "begin while a do end ; repeat until a ; if a then elsif b then end ; p0 ( a ) end");
    }

    private static void plainBrackets() {
        CHECK.about("Terms, the plain form: pairs of ( ) around factors, the same operands");
        String[] tight = {"*", "/", "%", "&"};
        String[] loose = {"+", "-", "or"};
        String[] relations = {"=", "#", "<", "<=", ">", ">="};
        for (String inner : tight) {
            for (String outer : tight) {
                put("( a " + inner + " b ) " + outer + " c", "a " + inner + " b " + outer + " c");
                put("a " + outer + " ( b " + inner + " c )", "a " + outer + " ( b " + inner + " c )");
            }
            for (String outer : loose) {
                put("( a " + inner + " b ) " + outer + " c", "a " + inner + " b " + outer + " c");
                put("a " + outer + " ( b " + inner + " c )", "a " + outer + " b " + inner + " c");
                put("( a " + outer + " b ) " + inner + " c", "( a " + outer + " b ) " + inner + " c");
                put("a " + inner + " ( b " + outer + " c )", "a " + inner + " ( b " + outer + " c )");
            }
            put("- ( a " + inner + " b )", "- a " + inner + " b");
            put("( - a ) " + inner + " b", "( - a ) " + inner + " b");
            put("a " + inner + " ( - b )", "a " + inner + " ( - b )");
            put("( ~ a ) " + inner + " ( ~ b )", "~ a " + inner + " ~ b");
            put("~ ( a " + inner + " b )", "~ ( a " + inner + " b )");
        }
        for (String inner : loose) {
            for (String outer : loose) {
                put("( a " + inner + " b ) " + outer + " c", "a " + inner + " b " + outer + " c");
                put("a " + outer + " ( b " + inner + " c )", "a " + outer + " ( b " + inner + " c )");
            }
            put("- ( a " + inner + " b )", "- ( a " + inner + " b )");
            put("( - a ) " + inner + " b", "- a " + inner + " b");
            put("a " + inner + " ( - b )", "a " + inner + " ( - b )");
            put("( ~ a ) " + inner + " ( ~ b )", "~ a " + inner + " ~ b");
            put("~ ( a " + inner + " b )", "~ ( a " + inner + " b )");
        }
        for (String relation : relations) {
            put("( a " + relation + " b )", "a " + relation + " b");
            put("( a + b ) " + relation + " ( - c )", "a + b " + relation + " - c");
            put("( - a ) " + relation + " ( b or c )", "- a " + relation + " b or c");
            for (String outer : relations) {
                put("( a " + relation + " b ) " + outer + " c", "( a " + relation + " b ) " + outer + " c");
                put("a " + outer + " ( b " + relation + " c )", "a " + outer + " ( b " + relation + " c )");
            }
            put("- ( a " + relation + " b )", "- ( a " + relation + " b )");
            put("~ ( a " + relation + " b )", "~ ( a " + relation + " b )");
            put("( a " + relation + " b ) & c", "( a " + relation + " b ) & c");
            put("c or ( a " + relation + " b )", "c or ( a " + relation + " b )");
            put("m [ ( a " + relation + " b ) ]", "m [ a " + relation + " b ]");
            put("p0 ( ( a " + relation + " b ) )", "p0 ( a " + relation + " b )");
        }
        for (String factor : new String[] {"1", "a", "m [ 1 ]", "p0 ( )", "~ a"}) {
            put("( " + factor + " ) * ( " + factor + " )", factor + " * " + factor);
            put("~ ( " + factor + " )", "~ " + factor);
            put("- ( ( " + factor + " ) )", "- " + factor);
        }
        plain("begin a := ( b < c ) ; m [ ( b < c ) ] := ( b < c ) ; p0 ( ( b < c ) , ( b ) ) ; return ( b < c ) end",
            "begin a := b < c ; m [ b < c ] := b < c ; p0 ( b < c , b ) ; return b < c end");
        plain("begin while ( b < c ) do end ; repeat until ( b < c ) ; if ( b < c ) then elsif ( b < c ) then end end",
            "begin while b < c do end ; repeat until b < c ; if b < c then elsif b < c then end end");
    }

    private static void plainSemicolons() {
        CHECK.about("Terms, the plain form: leaving out ; only where a statement is empty");
        for (int before = 0; before <= 2; before++) {
            for (int between = 1; between <= 3; between++) {
                for (int behind = 0; behind <= 2; behind++) {
                    String some = Check.repeated(";", before) + "put 1 " + Check.repeated(";", between) + "a := 2 "
                        + Check.repeated(";", behind);
                    String one = "put 1 ; a := 2";
                    plain("begin " + some + "end", "begin " + one + " end");
                    plain("begin while 1 do " + some + "end end", "begin while 1 do " + one + " end end");
                    plain("begin repeat " + some + "until 1 end", "begin repeat " + one + " until 1 end");
                    plain("begin if 1 then " + some + "elsif 2 then " + some + "else " + some + "end end",
                        "begin if 1 then " + one + " elsif 2 then " + one + " else " + one + " end end");
                    plain("proc p0 ( ) begin " + some + "end begin end", "proc p0 ( ) begin " + one + " end begin end");
                }
            }
        }
        for (int n = 0; n <= 3; n++) {
            String some = Check.repeated(";", n);
            plain("begin " + some + "end", "begin end");
            plain("begin while 1 do " + some + "end end", "begin while 1 do end end");
            plain("begin repeat " + some + "until 1 end", "begin repeat until 1 end");
            plain("begin if 1 then " + some + "elsif 2 then " + some + "else " + some + "end end",
                "begin if 1 then elsif 2 then else end end");
            plain("begin " + some + "if 1 then " + some + "end ; " + some + "while 1 do end " + some + "end",
                "begin if 1 then end ; while 1 do end end");
            plain("begin repeat until 1 ; " + some + "repeat until 1 end", "begin repeat until 1 ; repeat until 1 end");
        }
    }

    private static void plainLeavesTheText() {
        CHECK.about("Promises 18 and 19: what is asked changes nothing");
        String words = "begin ; put ( + 5 ) ; ; end";
        LittleCompiler x = text(words);
        due("plainSize", x.plainSize(), 4);
        due("plain", x.plain(2), 5);
        int[] all = Check.tokens(words);
        due("tokens", x.tokens(), all.length);
        for (int i = all.length - 1; i >= 0; i--) {
            due("token " + i, x.untoken(), all[i]);
        }
    }
}
