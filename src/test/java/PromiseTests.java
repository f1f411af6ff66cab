/** Each promise of the document: ordinary inputs, the edges that it names, and wrong inputs. */
public final class PromiseTests {
    private static final int BAD_ARG = -1;
    private static final int FULL = -2;
    private static final int NONE = -4;
    private static final int WRONG = -5;
    private static final int HALTED = 0;
    private static final int TIRED = 1;
    private static final int TOO_DEEP = 2;
    private static final int FULL_UP = 3;
    private static final int DIVIDED = 4;

    private static final Check CHECK = new Check("PromiseTests");

    public static void main(String[] args) {
        newObject();
        token();
        four();
        untoken();
        clear();
        tokens();
        wrongAtInHeads();
        wrongAtInStatements();
        wrongAtInExpressions();
        wrongAtInDeepTexts();
        fault();
        set();
        cell();
        run();
        outs();
        output();
        global();
        cellAfter();
        turns();
        deepest();
        plainBrackets();
        plainSigns();
        plainSemicolons();
        plainEdges();
        prepare();
        orderAndLimits();
        arithmetic();
        skipping();
        names();
        statements();
        changesAfterAsking();
        CHECK.finish();
    }

    private static void due(String call, int got, int want) {
        CHECK.due(call, got, want);
    }

    private static void newObject() {
        LittleCompiler x = new LittleCompiler();
        due("new tokens", x.tokens(), 0);
        due("new wrongAt", x.wrongAt(), 0);
        due("new fault", x.fault(), WRONG);
        due("new run", x.run(), WRONG);
        due("new plainSize", x.plainSize(), WRONG);
        due("new plain(0)", x.plain(0), NONE);
        due("new untoken", x.untoken(), NONE);
        Check.put(x, Check.tokens("begin end"));
        due("empty program", x.run(), HALTED);
        for (int g = 0; g < 8; g++) {
            due("new global " + g, x.global(g), 0);
        }
        for (int i = 0; i < 16; i++) {
            due("new cellAfter " + i, x.cellAfter(i), 0);
        }
    }

    private static boolean isToken(int t) {
        int[][] ranges = {{0, 108}, {110, 113}, {120, 126}, {130, 134}, {140, 145}, {150, 152}, {160, 173}};
        for (int[] range : ranges) {
            if (t >= range[0] && t <= range[1]) {
                return true;
            }
        }
        return false;
    }

    private static void token() {
        for (int t = -300; t <= 300; t++) {
            LittleCompiler x = new LittleCompiler();
            due("token " + t, x.token(t), isToken(t) ? 1 : BAD_ARG);
            due("tokens after token " + t, x.tokens(), isToken(t) ? 1 : 0);
        }
        LittleCompiler x = new LittleCompiler();
        due("token least", x.token(Integer.MIN_VALUE), BAD_ARG);
        due("token most", x.token(Integer.MAX_VALUE), BAD_ARG);
        for (int i = 1; i <= 150; i++) {
            due("token number " + i, x.token(i % 100), i);
        }
        due("token 151", x.token(1), FULL);
        due("no token when full", x.token(109), BAD_ARG);
        due("-1 when full", x.token(-1), BAD_ARG);
        due("last of the full", x.untoken(), 50);
        due("again", x.token(7), 150);
    }

    private static void four() {
        LittleCompiler x = new LittleCompiler();
        due("four", x.four(1, 2, 3, 4), 4);
        due("four with gaps", x.four(-1, 5, -1, 6), 6);
        due("four none", x.four(-1, -1, -1, -1), 6);
        due("four bad first", x.four(109, 1, 1, 1), BAD_ARG);
        due("four bad second", x.four(1, -2, 1, 1), BAD_ARG);
        due("four bad third", x.four(1, 1, 174, 1), BAD_ARG);
        due("four bad fourth", x.four(1, 1, 1, 127), BAD_ARG);
        due("refused changes nothing", x.tokens(), 6);
        due("order 6", x.untoken(), 6);
        due("order 5", x.untoken(), 5);
        due("order 4", x.untoken(), 4);
        due("order 3", x.untoken(), 3);
        for (int i = 3; i <= 148; i++) {
            x.token(9);
        }
        due("four too many", x.four(1, 2, 3, -1), FULL);
        due("four bad before full", x.four(1, 2, 3, 109), BAD_ARG);
        due("full changes nothing", x.tokens(), 148);
        due("four fills", x.four(-1, 1, -1, 2), 150);
        due("four none when full", x.four(-1, -1, -1, -1), 150);
        due("four one when full", x.four(-1, -1, -1, 0), FULL);
        due("last", x.untoken(), 2);
    }

    private static void untoken() {
        LittleCompiler x = Check.with("begin put 1 end");
        due("untoken", x.untoken(), 163);
        due("untoken number", x.untoken(), 1);
        due("tokens", x.tokens(), 2);
        due("wrongAt", x.wrongAt(), 2);
        due("untoken put", x.untoken(), 169);
        due("untoken begin", x.untoken(), 171);
        due("untoken none", x.untoken(), NONE);
        due("still none", x.untoken(), NONE);
        due("tokens 0", x.tokens(), 0);
    }

    private static void clear() {
        LittleCompiler x = Check.with("begin put a end");
        x.set(0, 9);
        x.cell(3, 8);
        x.clear();
        due("cleared tokens", x.tokens(), 0);
        due("cleared wrongAt", x.wrongAt(), 0);
        due("cleared untoken", x.untoken(), NONE);
        Check.put(x, Check.tokens("begin put a end"));
        due("globals outlast clear", x.output(0), 9);
        due("cells outlast clear", x.cellAfter(3), 8);
    }

    private static void tokens() {
        LittleCompiler x = new LittleCompiler();
        x.token(5);
        due("one", x.tokens(), 1);
        x.four(1, -1, -1, 2);
        due("three", x.tokens(), 3);
        x.untoken();
        due("two", x.tokens(), 2);
    }

    /** The stroke stands before the token that is wrong; without one the text is a program. */
    private static void wrongAt(String words) {
        int stroke = words.indexOf('|');
        int want = stroke < 0 ? NONE : Check.tokens(words.substring(0, stroke)).length;
        LittleCompiler x = Check.with(words.replace("|", " "));
        due("wrongAt of " + words, x.wrongAt(), want);
        due("plainSize of " + words, x.plainSize() == WRONG ? 1 : 0, want == NONE ? 0 : 1);
        due("fault of " + words, x.fault() == WRONG ? 1 : 0, want == NONE ? 0 : 1);
        if (want != NONE) {
            due("run of " + words, x.run(), WRONG);
        }
    }

    private static void wrongAtInHeads() {
        wrongAt("|");
        wrongAt("| end");
        wrongAt("| a := 1");
        wrongAt("begin |");
        wrongAt("begin end");
        wrongAt("begin end | end");
        wrongAt("begin end | begin");
        wrongAt("begin end | ;");
        wrongAt("proc |");
        wrongAt("proc | a");
        wrongAt("proc | begin");
        wrongAt("proc p0 | begin");
        wrongAt("proc p0 ( | 1");
        wrongAt("proc p0 ( | m");
        wrongAt("proc p0 ( | ,");
        wrongAt("proc p0 ( a | b");
        wrongAt("proc p0 ( a , | )");
        wrongAt("proc p0 ( a , b ) | a");
        wrongAt("proc p0 ( ) | end");
        wrongAt("proc p0 ( ) begin |");
        wrongAt("proc p0 ( ) begin end |");
        wrongAt("proc p0 ( ) begin end | end");
        wrongAt("proc p0 ( ) begin end | var");
        wrongAt("proc p0 ( ) begin end begin end");
        wrongAt("proc p0 ( ) var | begin end");
        wrongAt("proc p0 ( ) var a | ; begin end");
        wrongAt("proc p0 ( ) var a , | begin end");
        wrongAt("proc p0 ( ) var a , b begin end begin end");
        wrongAt("proc p0 ( a ) var b begin end proc p0 ( a , a ) begin end begin end");
        wrongAt("begin end | proc p0 ( ) begin end");
        wrongAt("begin | begin end end");
        wrongAt("begin | proc");
        wrongAt("begin | var");
    }

    private static void wrongAtInStatements() {
        wrongAt("begin ; ; ; end");
        wrongAt("begin a := 1 ; end");
        wrongAt("begin ; a := 1 end");
        wrongAt("begin a | = 1 end");
        wrongAt("begin a | end");
        wrongAt("begin a := | end");
        wrongAt("begin a := 1 | b := 2 end");
        wrongAt("begin a := b | := 2 end");
        wrongAt("begin | 1 end");
        wrongAt("begin | ( a ) end");
        wrongAt("begin m | := 1 end");
        wrongAt("begin m [ | ] := 1 end");
        wrongAt("begin m [ 1 | := 1 end");
        wrongAt("begin m [ 1 | ) := 1 end");
        wrongAt("begin m [ 1 ] | end");
        wrongAt("begin m [ 1 ] := 1 end");
        wrongAt("begin p0 | end");
        wrongAt("begin p0 ( ) end");
        wrongAt("begin p0 ( ) | + 1 end");
        wrongAt("begin p0 ( ) | := 1 end");
        wrongAt("begin p0 ( 1 , 2 , a ) end");
        wrongAt("begin p0 ( | , 1 ) end");
        wrongAt("begin p0 ( 1 , | ) end");
        wrongAt("begin p0 ( 1 | ] end");
        wrongAt("begin p0 ( 1 | ; end");
        wrongAt("begin put | end");
        wrongAt("begin put 1 | put 2 end");
        wrongAt("begin return | end");
        wrongAt("begin return 1 | , end");
        wrongAt("begin while | do end end");
        wrongAt("begin while 1 | then end end");
        wrongAt("begin while 1 do | until");
        wrongAt("begin while 1 do | else");
        wrongAt("begin while 1 do end end");
        wrongAt("begin while 1 do end |");
        wrongAt("begin while 1 do end | put 1 end");
        wrongAt("begin repeat | end");
        wrongAt("begin repeat until | end");
        wrongAt("begin repeat until 1 end");
        wrongAt("begin repeat until 1 | do end");
        wrongAt("begin repeat ; put 1 ; until 1 ; end");
        wrongAt("begin if | then end end");
        wrongAt("begin if 1 | do end end");
        wrongAt("begin if 1 then end end");
        wrongAt("begin if 1 then elsif 2 then elsif 3 then else end end");
        wrongAt("begin if 1 then elsif 2 | else end end");
        wrongAt("begin if 1 then else | elsif 2 then end end");
        wrongAt("begin if 1 then else | else end end");
        wrongAt("begin if 1 then | until");
        wrongAt("begin | else");
        wrongAt("begin | elsif");
        wrongAt("begin | until");
        wrongAt("proc p0 ( ) begin | until");
    }

    private static void wrongAtInExpressions() {
        wrongAt("begin put 1 < 2 | < 3 end");
        wrongAt("begin put ( 1 < 2 ) < 3 end");
        wrongAt("begin put 1 = - 2 end");
        wrongAt("begin put 1 = + 2 | = 3 end");
        wrongAt("begin put - 5 + | - 5 end");
        wrongAt("begin put 2 * | - 5 end");
        wrongAt("begin put | * 5 end");
        wrongAt("begin put - | - 5 end");
        wrongAt("begin put + | - 5 end");
        wrongAt("begin put + 5 end");
        wrongAt("begin put ~ | - 5 end");
        wrongAt("begin put - ~ 5 end");
        wrongAt("begin put ~ ~ ~ a end");
        wrongAt("begin put a | ~ b end");
        wrongAt("begin put a | b end");
        wrongAt("begin put a | ( b ) end");
        wrongAt("begin put a | [ b ] end");
        wrongAt("begin put m | + end");
        wrongAt("begin put m [ m [ 1 ] ] end");
        wrongAt("begin put ( | ) end");
        wrongAt("begin put ( 1 | ] end");
        wrongAt("begin put ( 1 | , 2 ) end");
        wrongAt("begin put ( 1 | end");
        wrongAt("begin put 1 | ) end");
        wrongAt("begin put p0 | end");
        wrongAt("begin put p0 ( ) | ( 1 ) end");
        wrongAt("begin put p0 ( p1 ( ) , - 1 < 2 , ( a ) ) end");
        wrongAt("begin put 1 & 2 or 3 * 4 % 5 / 6 - 7 + 8 # 9 end");
        wrongAt("begin put 1 & | < 2 end");
        wrongAt("begin put m [ 1 < 2 | < 3");
        wrongAt("begin put m [ 1 < 2 ] < 3 end");
        wrongAt("begin put p0 ( 1 < 2 ) < 3 end");
        wrongAt("begin put 1 < p0 ( 1 < 2 ) end");
        wrongAt("begin put | put 1 end");
    }

    private static void wrongAtInDeepTexts() {
        wrongAt("begin put " + Check.repeated("(", 148) + "|");
        wrongAt("begin put " + Check.repeated("~", 148) + "|");
        wrongAt("begin put " + Check.repeated("(", 147) + "| )");
        wrongAt("begin put " + Check.repeated("(", 73) + "1" + Check.repeated(" )", 73) + "| )");
        wrongAt("begin put " + Check.repeated("(", 73) + "1 " + Check.repeated(")", 73) + "end");
        wrongAt("begin " + Check.repeated("repeat", 149) + "|");
        wrongAt("begin put " + Check.repeated("m [", 74) + "|");
        wrongAt("begin put " + Check.repeated("p0 (", 74) + "|");
        wrongAt("begin " + Check.repeated("while 1 do", 49) + " |");
        wrongAt("begin " + Check.repeated(";", 148) + "end");
        wrongAt("begin " + Check.repeated(";", 149) + "|");
        wrongAt("begin put 1 " + Check.repeated("+ 1", 73) + "end");
    }

    /** The stroke stands before the first token with a fault; without one there is none. */
    private static void fault(String words) {
        int stroke = words.indexOf('|');
        int want = stroke < 0 ? NONE : Check.tokens(words.substring(0, stroke)).length;
        LittleCompiler x = Check.with(words.replace("|", " "));
        due("wrongAt of " + words, x.wrongAt(), NONE);
        due("fault of " + words, x.fault(), want);
        due("run of " + words, x.run() == WRONG ? 1 : 0, want == NONE ? 0 : 1);
        due("outs of " + words, x.outs() == WRONG ? 1 : 0, want == NONE ? 0 : 1);
        due("turns of " + words, x.turns() == WRONG ? 1 : 0, want == NONE ? 0 : 1);
        due("deepest of " + words, x.deepest() == WRONG ? 1 : 0, want == NONE ? 0 : 1);
        CHECK.holds("plainSize of " + words, x.plainSize() > 0);
    }

    private static void fault() {
        fault("begin end");
        fault("begin | p0 ( ) end");
        fault("begin put | p3 ( ) end");
        fault("proc p0 ( ) begin end proc | p0 ( ) begin end begin end");
        fault("proc p0 ( ) begin end proc p1 ( ) begin end begin end");
        fault("proc p0 ( a , | a ) begin end begin end");
        fault("proc p0 ( a , b ) var | b begin end begin end");
        fault("proc p0 ( a , b ) var c , | c begin end begin end");
        fault("proc p0 ( a ) begin end proc p1 ( a ) var b begin end begin end");
        fault("proc p0 ( a ) begin end begin | p0 ( ) end");
        fault("proc p0 ( ) begin end begin | p0 ( 1 ) end");
        fault("proc p0 ( a , b ) begin end begin put 1 + | p0 ( 1 ) end");
        fault("proc p0 ( a , b ) begin end begin put 1 + p0 ( 1 , 2 ) end");
        fault("proc p0 ( a , b ) begin end begin put p0 ( | p0 ( 1 ) , 2 ) end");
        fault("proc p0 ( a , b ) begin end begin put | p0 ( p0 ( 1 , 2 ) ) end");
        fault("proc p0 ( a , b ) var c begin end begin put | p0 ( 1 , 2 , 3 ) end");
        // calls look at the first proc of the name
        fault("proc p0 ( a ) begin p0 ( 1 ) end proc | p0 ( ) begin p0 ( 1 ) end begin p0 ( 1 ) end");
        fault("proc p0 ( a ) begin | p0 ( ) end proc p0 ( ) begin end begin end");
        // a proc behind its call counts, and the first of two faults is told
        fault("proc p0 ( ) begin p1 ( 1 ) end proc p1 ( a ) begin end begin end");
        fault("proc p0 ( ) begin | p1 ( ) end proc p1 ( a , a ) begin end begin p2 ( ) end");
        fault("proc p0 ( a , | a ) begin p1 ( ) end begin end");
        // names in brackets count as they stand there, also twice
        fault("proc p1 ( ) begin | p0 ( 1 ) end proc p0 ( a , a ) begin end begin end");
        fault("proc p1 ( ) begin p0 ( 1 , 2 ) end proc p0 ( a , | a ) begin end begin end");
        // names of a repeated proc are looked at as well
        fault("proc p0 ( ) begin end proc | p0 ( a , a ) begin end begin end");
        fault("proc p0 ( a , b , c , d , e , f , g , h ) begin end begin p0 ( 1 , 2 , 3 , 4 , 5 , 6 , 7 , 8 ) end");
        fault("proc p0 ( a , b , c , d , e , f , g , h , | a ) begin end begin end");
        fault("proc p0 ( a , b , c , d , e , f , g , h ) begin end begin | p0 ( 1 , 2 , 3 , 4 , 5 , 6 , 7 , 8 , 9 ) end");
        due("fault of no program", Check.with("begin p0 ( )").fault(), WRONG);
        due("fault before anything else", Check.with("begin p0 ( ) end").fault(), 1);
    }

    private static void set() {
        LittleCompiler x = Check.with("begin a := a + 1 ; h := h - 1 end");
        due("set -1", x.set(-1, 5), BAD_ARG);
        due("set 8", x.set(8, 5), BAD_ARG);
        due("set least", x.set(Integer.MIN_VALUE, 5), BAD_ARG);
        due("set 100", x.set(100, 5), BAD_ARG);
        due("set 0", x.set(0, 41), 0);
        due("set 7", x.set(7, Integer.MIN_VALUE), 0);
        due("global 0", x.global(0), 42);
        due("global 7", x.global(7), Integer.MAX_VALUE);
        due("a run changes nothing", x.global(0), 42);
        due("run again", x.run(), HALTED);
        due("global 0 again", x.global(0), 42);
        due("set again", x.set(0, 1), 0);
        due("global 0 anew", x.global(0), 2);
        for (int g = 0; g < 8; g++) {
            due("set each", x.set(g, 10 * g), 0);
        }
        Check.put(x, Check.tokens("begin end"));
        for (int g = 0; g < 8; g++) {
            due("each", x.global(g), 10 * g);
        }
    }

    private static void cell() {
        LittleCompiler x = Check.with("begin m [ 3 ] := m [ 3 ] + m [ 15 ] end");
        due("cell -1", x.cell(-1, 5), BAD_ARG);
        due("cell 16", x.cell(16, 5), BAD_ARG);
        due("cell most", x.cell(Integer.MAX_VALUE, 5), BAD_ARG);
        due("cell 3", x.cell(3, 30), 0);
        due("cell 15", x.cell(15, -7), 0);
        due("cellAfter 3", x.cellAfter(3), 23);
        due("a run changes no cell", x.cellAfter(3), 23);
        due("cellAfter 15", x.cellAfter(15), -7);
        Check.put(x, Check.tokens("begin put m [ 0 ] * 10 + m [ 16 ] end"));
        x.cell(0, 4);
        due("cell 0", x.output(0), 44);
        Check.put(x, Check.tokens("begin end"));
        for (int i = 0; i < 16; i++) {
            due("cell each", x.cell(i, 100 - i), 0);
        }
        for (int i = 0; i < 16; i++) {
            due("each cell", x.cellAfter(i), 100 - i);
        }
    }

    private static void ends(String words, int how) {
        due("run of " + words, Check.with(words).run(), how);
    }

    private static void run() {
        ends("begin end", HALTED);
        ends("begin", WRONG);
        ends("begin p0 ( ) end", WRONG);
        ends("begin while 1 do end end", TIRED);
        ends("begin repeat until 0 end", TIRED);
        ends("begin while a < 99 do a := a + 1 end end", HALTED);
        ends("begin put 1 / 0 end", DIVIDED);
        ends("begin put 1 % 0 end", DIVIDED);
        ends("begin put 0 & 1 / 0 end", DIVIDED);
        ends("begin put 0 & ( 1 / 0 ) end", HALTED);
        ends("begin return 1 ; put 1 / 0 end", HALTED);
        ends("proc p0 ( ) begin p0 ( ) end begin p0 ( ) end", TOO_DEEP);
        ends("proc p0 ( a ) begin if a > 1 then p0 ( a - 1 ) end end begin p0 ( 20 ) end", HALTED);
        ends("proc p0 ( a ) begin if a > 1 then p0 ( a - 1 ) end end begin p0 ( 21 ) end", TOO_DEEP);
        ends("begin while a < 20 do put a ; a := a + 1 end end", HALTED);
        ends("begin while a < 21 do put a ; a := a + 1 end end", FULL_UP);
        // the number is worked out before it is found that it can't be put out
        ends("begin while a < 20 do put a ; a := a + 1 end ; put 1 / 0 end", DIVIDED);
    }

    private static void outs() {
        due("no outs", Check.with("begin end").outs(), 0);
        due("one", Check.with("begin put 5 end").outs(), 1);
        due("full", Check.with("begin while 1 do put 5 end end").outs(), 20);
        due("until divided", Check.with("begin put 5 ; put 6 ; put 1 / 0 ; put 7 end").outs(), 2);
        due("wrong", Check.with("begin put 5").outs(), WRONG);
        due("faulty", Check.with("begin put 5 ; p0 ( ) end").outs(), WRONG);
    }

    private static void output() {
        LittleCompiler x = Check.with("begin while 1 do put a * a ; a := a + 1 end end");
        for (int k = 0; k < 20; k++) {
            due("output " + k, x.output(k), k * k);
        }
        due("output 20", x.output(20), 0);
        due("output -1", x.output(-1), 0);
        due("output most", x.output(Integer.MAX_VALUE), 0);
        due("output least", x.output(Integer.MIN_VALUE), 0);
        Check.put(x, Check.tokens("begin put 3 end"));
        due("output of the new text", x.output(0), 3);
        due("none of the old text", x.output(1), 0);
        due("of no program", Check.with("begin put 3").output(0), 0);
        due("of a faulty one", Check.with("begin put 3 ; p0 ( ) end").output(0), 0);
    }

    private static void global() {
        LittleCompiler x = Check.with("begin a := 5 ; b := a / c ; a := 6 end");
        due("at the end", x.global(0), 5);
        due("not reached", x.global(1), 0);
        due("-1", x.global(-1), 0);
        due("8", x.global(8), 0);
        due("100", x.global(100), 0);
        x.set(3, 7);
        due("untouched", x.global(3), 7);
        x.untoken();
        due("no program", x.global(3), 0);
        Check.put(x, Check.tokens("begin p0 ( ) end"));
        due("faulty", x.global(3), 0);
    }

    private static void cellAfter() {
        LittleCompiler x = Check.with("begin m [ 17 ] := 5 ; m [ - 1 ] := 6 ; m [ 16 ] := m [ 1 ] + m [ 31 ] end");
        due("17 is 1", x.cellAfter(1), 5);
        due("-1 is 15", x.cellAfter(15), 6);
        due("16 is 0", x.cellAfter(0), 11);
        due("cell -1", x.cellAfter(-1), 0);
        due("cell 16", x.cellAfter(16), 0);
        due("cell 17", x.cellAfter(17), 0);
        x.token(121);
        due("no program", x.cellAfter(1), 0);
        x.untoken();
        due("again", x.cellAfter(1), 5);
        Check.put(x, Check.tokens("begin m [ 1 ] := 5 ; p0 ( ) end"));
        due("faulty", x.cellAfter(1), 0);
    }

    private static void turns(String words, int want) {
        due("turns of " + words, Check.with(words).turns(), want);
    }

    private static void turns() {
        turns("begin end", 0);
        turns("begin", WRONG);
        turns("begin p0 ( ) end", WRONG);
        turns("begin while a < 3 do a := a + 1 end end", 3);
        turns("begin while 0 do end end", 0);
        turns("begin repeat a := a + 1 until a >= 3 end", 3);
        turns("begin repeat until 1 end", 1);
        turns("begin while 1 do end end", 300);
        turns("proc p0 ( ) begin end begin p0 ( ) ; a := p0 ( ) + p0 ( ) end", 3);
        turns("proc p0 ( ) begin p0 ( ) end begin p0 ( ) end", 21);
        // exactly 300 turns are not too many
        String loop = "begin while a < 99 do a := a + 1 end ; while a < 2 * 99 do a := a + 1 end ;"
            + " while a < 3 * 99 + ";
        turns(loop + "3 do a := a + 1 end end", 300);
        ends(loop + "3 do a := a + 1 end end", HALTED);
        ends(loop + "4 do a := a + 1 end end", TIRED);
        turns(loop + "4 do a := a + 1 end end", 300);
        // tired comes before too deep, and behind the arguments
        due("tired before too deep", Check.with("proc p0 ( a ) begin if a = 19 then while b < 7 * 40 do b := b + 1 end"
            + " end ; p0 ( a + 1 ) end begin p0 ( 0 ) end").run(), TIRED);
        due("too deep with the last turn", Check.with("proc p0 ( a ) begin if a = 19 then while b < 7 * 40 - 1 do"
            + " b := b + 1 end end ; p0 ( a + 1 ) end begin p0 ( 0 ) end").run(), TOO_DEEP);
        due("arguments before the turn", Check.with("proc p0 ( a ) begin end begin while b < 3 * 99 + 3 do b := b + 1"
            + " end ; p0 ( 1 / 0 ) end").run(), DIVIDED);
    }

    private static void deepest(String words, int want) {
        due("deepest of " + words, Check.with(words).deepest(), want);
    }

    private static void deepest() {
        deepest("begin end", 0);
        deepest("begin", WRONG);
        deepest("proc p0 ( ) begin end begin end", 0);
        deepest("proc p0 ( ) begin end begin p0 ( ) ; p0 ( ) end", 1);
        deepest("proc p0 ( a ) begin end begin p0 ( p0 ( p0 ( 1 ) ) ) end", 1);
        deepest("proc p0 ( ) begin p1 ( ) end proc p1 ( ) begin end begin p0 ( ) ; p1 ( ) end", 2);
        deepest("proc p0 ( a ) begin if a > 1 then p0 ( a - 1 ) end end begin p0 ( 20 ) end", 20);
        deepest("proc p0 ( a ) begin if a > 1 then p0 ( a - 1 ) end end begin p0 ( 21 ) end", 20);
    }

    private static void plain(String words, String want) {
        LittleCompiler x = Check.with(words);
        String got = Check.plain(x);
        CHECK.holds("plain form of " + words + " is " + want + " and not " + got, got.equals(want));
        due("behind the plain form of " + words, x.plain(Check.tokens(want).length), NONE);
        String again = Check.plain(Check.with(want));
        CHECK.holds("plain form of the plain " + want + " is not " + again, again.equals(want));
    }

    private static void plainPut(String expression, String want) {
        plain("begin put " + expression + " end", "begin put " + want + " end");
    }

    private static void plainBrackets() {
        plainPut("( 1 )", "1");
        plainPut("( ( ( a ) ) )", "a");
        plainPut("( a + b ) + c", "a + b + c");
        plainPut("a + ( b + c )", "a + ( b + c )");
        plainPut("a + ( ( b + c ) )", "a + ( b + c )");
        plainPut("a + ( b * c )", "a + b * c");
        plainPut("( a * b ) * c", "a * b * c");
        plainPut("a * ( b * c )", "a * ( b * c )");
        plainPut("( a + b ) * c", "( a + b ) * c");
        plainPut("( ( a + b ) ) * c", "( a + b ) * c");
        plainPut("( ( a + b ) * c ) & d", "( a + b ) * c & d");
        plainPut("( a & b ) * c", "a & b * c");
        plainPut("a & ( b & c )", "a & ( b & c )");
        plainPut("( a or b ) - c", "a or b - c");
        plainPut("a or ( b or c )", "a or ( b or c )");
        plainPut("( a < b )", "a < b");
        plainPut("( a < b ) = c", "( a < b ) = c");
        plainPut("a = ( b < c )", "a = ( b < c )");
        plainPut("( a + b ) < ( c - d )", "a + b < c - d");
        plainPut("( a < b ) + ( c )", "( a < b ) + c");
        plainPut("~ ( a )", "~ a");
        plainPut("~ ( ~ ( a ) )", "~ ~ a");
        plainPut("~ ( a * b )", "~ ( a * b )");
        plainPut("( ~ a ) * ( ~ b )", "~ a * ~ b");
        plainPut("~ ( m [ ( a ) ] )", "~ m [ a ]");
        plainPut("m [ ( a < b ) ]", "m [ a < b ]");
        plainPut("( p0 ( ( a ) , ( b < c ) ) ) * ( p1 ( ) )", "p0 ( a , b < c ) * p1 ( )");
        plainPut("( ( a * b ) + c ) * ( d )", "( a * b + c ) * d");
        plainPut("( a / ( b ) % ( c / d ) )", "a / b % ( c / d )");
    }

    private static void plainSigns() {
        plainPut("+ a", "a");
        plainPut("+ a + b", "a + b");
        plainPut("- a", "- a");
        plainPut("( - a )", "- a");
        plainPut("( - a ) * b", "( - a ) * b");
        plainPut("- ( a * b )", "- a * b");
        plainPut("- ( a + b )", "- ( a + b )");
        plainPut("- ( - a )", "- ( - a )");
        plainPut("- ( + a )", "- a");
        plainPut("- ( + a * b )", "- a * b");
        plainPut("+ ( - a )", "- a");
        plainPut("+ ( - a ) + b", "- a + b");
        plainPut("( - a ) + b", "- a + b");
        plainPut("( - a + b ) - c", "- a + b - c");
        plainPut("a + ( - b )", "a + ( - b )");
        plainPut("a - ( + b )", "a - b");
        plainPut("a * ( + b )", "a * b");
        plainPut("( + a ) * b", "a * b");
        plainPut("( + a * b ) * c", "a * b * c");
        plainPut("a < ( - b )", "a < - b");
        plainPut("( - a ) < ( + b )", "- a < b");
        plainPut("a < + b", "a < b");
        plainPut("+ ( a < b )", "a < b");
        plainPut("+ ( a < b ) = c", "( a < b ) = c");
        plainPut("- ( a < b )", "- ( a < b )");
        plainPut("~ ( + a )", "~ a");
        plainPut("~ ( - a )", "~ ( - a )");
        plainPut("( - ( a * b ) ) * c", "( - a * b ) * c");
        plainPut("- ( ( - a ) * b )", "- ( - a ) * b");
        plainPut("- ( a * b ) * c", "- a * b * c");
        plainPut("p0 ( + 1 , + ( + 2 ) )", "p0 ( 1 , 2 )");
    }

    private static void plainSemicolons() {
        plain("begin ; end", "begin end");
        plain("begin ; ; ; end", "begin end");
        plain("begin ; put 1 end", "begin put 1 end");
        plain("begin put 1 ; end", "begin put 1 end");
        plain("begin put 1 ; ; ; put 2 ; ; end", "begin put 1 ; put 2 end");
        plain("begin ; while a do ; put 1 ; ; put 2 ; end ; ; end", "begin while a do put 1 ; put 2 end end");
        plain("begin repeat ; ; until a end", "begin repeat until a end");
        plain("begin repeat ; p0 ( ) ; until a ; end", "begin repeat p0 ( ) until a end");
        plain("begin if a then ; elsif b then ; ; put 1 ; else ; end end",
            "begin if a then elsif b then put 1 else end end");
        plain("begin put 1 ; if a then end ; ; m [ 1 ] := 2 end", "begin put 1 ; if a then end ; m [ 1 ] := 2 end");
        plain("proc p0 ( ) begin ; ; return 1 ; end begin ; a := 1 end",
            "proc p0 ( ) begin return 1 end begin a := 1 end");
        plain("begin a := ( b ) ; ; b := ( a ) ; end", "begin a := b ; b := a end");
    }

    private static void plainEdges() {
        LittleCompiler x = Check.with("begin put ( 1 ) end");
        due("plainSize", x.plainSize(), 4);
        due("plain 0", x.plain(0), 171);
        due("plain 2", x.plain(2), 1);
        due("plain 3", x.plain(3), 163);
        due("plain 4", x.plain(4), NONE);
        due("plain -1", x.plain(-1), NONE);
        due("plain most", x.plain(Integer.MAX_VALUE), NONE);
        due("plain least", x.plain(Integer.MIN_VALUE), NONE);
        due("the text stays", x.tokens(), 6);
        x.untoken();
        due("no program", x.plain(0), NONE);
        due("no size", x.plainSize(), WRONG);
        String deep = "begin put " + Check.repeated("(", 73) + "1 " + Check.repeated(")", 73) + "end";
        plain(deep, "begin put 1 end");
        plain("begin " + Check.repeated(";", 148) + "end", "begin end");
        plain("proc p0 ( ) begin end proc p0 ( a , a ) begin ; end begin p1 ( ( 1 ) ) end",
            "proc p0 ( ) begin end proc p0 ( a , a ) begin end begin p1 ( 1 ) end");
    }

    private static void prepare() {
        LittleCompiler x = Check.with("proc p0 ( a ) begin return a * 2 end begin put p0 ( 4 ) + p0 ( 5 ) end");
        for (int n = -2; n <= 12; n++) {
            for (int care = -2; care <= 5; care++) {
                boolean fine = n >= 4 && n <= 8 && care >= 0 && care <= 2;
                due("prepare " + n + " " + care, x.prepare(n, care), fine ? 0 : BAD_ARG);
                due("output after prepare", x.output(0), 18);
            }
        }
        due("prepare least", x.prepare(Integer.MIN_VALUE, 0), BAD_ARG);
        due("prepare most", x.prepare(4, Integer.MAX_VALUE), BAD_ARG);
        due("turns", x.turns(), 2);
        due("wrongAt", x.wrongAt(), NONE);
        due("prepare of nothing", new LittleCompiler().prepare(8, 2), 0);
    }

    private static void orderAndLimits() {
        ends("begin return 1 / 0 end", DIVIDED);
        due("return's call is done", Check.with("proc p0 ( ) begin put 7 end begin return p0 ( ) end").output(0), 7);
        due("a later proc", Check.with("proc p0 ( ) begin return p1 ( 3 ) end proc p1 ( a ) begin return a * a end"
            + " begin put p0 ( ) end").output(0), 9);
        ends("proc p0 ( ) begin return 1 / 0 end begin p0 ( ) end", DIVIDED);
        // 150 tokens without a wrong one, and no program of 150 tokens goes on so
        wrongAt("begin put " + Check.repeated("(", 148) + "|");
        due("150 tokens", Check.with("begin put 1 " + Check.repeated("+ 1", 73) + "end").output(0), 74);
    }

    private static void value(String expression, int want) {
        LittleCompiler x = Check.with("begin put " + expression + " end");
        x.set(0, Integer.MAX_VALUE);
        x.set(1, Integer.MIN_VALUE);
        x.set(2, -7);
        due("outs of " + expression, x.outs(), 1);
        due("value of " + expression, x.output(0), want);
    }

    private static void arithmetic() {
        value("a + 1", Integer.MIN_VALUE);
        value("b - 1", Integer.MAX_VALUE);
        value("a * 2", -2);
        value("b / ( - 1 )", Integer.MIN_VALUE);
        value("b % ( - 1 )", 0);
        value("- b", Integer.MIN_VALUE);
        value("c / 2", -3);
        value("c % 2", -1);
        value("7 / ( - 2 )", -3);
        value("7 % ( - 2 )", 1);
        value("10 - 4 - 3", 3);
        value("10 - ( 4 - 3 )", 9);
        value("99 / 5 / 2", 9);
        value("2 + 3 * 4", 14);
        value("- 2 * 3 + 1", -5);
        value("- 7 / 2", -3);
        value("- 7 % 4", -3);
        value("+ 5", 5);
        value("1 < 2", 1);
        value("2 < 2", 0);
        value("2 <= 2", 1);
        value("3 <= 2", 0);
        value("3 > 2", 1);
        value("2 > 2", 0);
        value("2 >= 2", 1);
        value("1 >= 2", 0);
        value("2 = 2", 1);
        value("2 = 3", 0);
        value("2 # 3", 1);
        value("2 # 2", 0);
        value("b < a", 1);
        value("b > a", 0);
        value("1 + 1 = 3 - 1", 1);
        value("( 1 < 2 ) + ( 2 < 3 )", 2);
        value("~ 0", 1);
        value("~ 5", 0);
        value("~ ~ 5", 1);
        value("~ 0 + 1", 2);
        value("5 & 6", 1);
        value("5 & 0", 0);
        value("0 & 5", 0);
        value("5 or 0", 1);
        value("0 or 5", 1);
        value("0 or 0", 0);
        value("2 & 3 * 4", 4);
        value("0 & 3 * 4", 0);
        value("2 * 3 & 4", 1);
        value("0 & 1 + 5", 5);
        value("2 or 3 + 4", 5);
        value("2 + 3 or 4", 1);
        value("5 + ( 0 & 1 )", 5);
        value("5 + ( 1 or 0 )", 6);
        value("- 1 or 0", 1);
        value("0 - 0 or 0", 0);
    }

    private static void skipping() {
        String head = "proc p0 ( a ) begin put a ; return a end begin ";
        due("& skips", Check.with(head + "b := 0 & p0 ( 1 ) end").outs(), 0);
        due("& does not skip", Check.with(head + "b := 2 & p0 ( 1 ) end").outs(), 1);
        due("or skips", Check.with(head + "b := 2 or p0 ( 1 ) end").outs(), 0);
        due("or does not skip", Check.with(head + "b := 0 or p0 ( 1 ) end").outs(), 1);
        LittleCompiler x = Check.with(head + "b := 0 & p0 ( 1 ) * p0 ( 2 ) end");
        due("only the operand of & is skipped", x.outs(), 1);
        due("the one behind is done", x.output(0), 2);
        x = Check.with(head + "b := 0 & p0 ( 1 ) or p0 ( 2 ) & p0 ( 3 ) end");
        due("chain outs", x.outs(), 2);
        due("chain first", x.output(0), 2);
        due("chain second", x.output(1), 3);
        due("chain value", x.global(1), 1);
        x = Check.with(head + "b := p0 ( 1 ) - p0 ( 2 ) * p0 ( 3 ) end");
        due("from left to right", x.output(0) * 100 + x.output(1) * 10 + x.output(2), 123);
        due("value", x.global(1), -5);
        x = Check.with("proc p0 ( ) begin a := a + 1 ; return a end begin a := 10 ; b := a + p0 ( ) + a end");
        due("a name's value is taken in its turn", x.global(1), 32);
        x = Check.with("proc p0 ( ) begin a := a + 1 ; return a end begin m [ p0 ( ) ] := p0 ( ) end");
        due("index before value", x.cellAfter(1), 2);
        x = Check.with("proc p0 ( ) begin m [ 3 ] := 9 ; return 1 end begin m [ m [ 3 ] ] := p0 ( ) end");
        due("the index is worked out first", x.cellAfter(0), 1);
    }

    private static void names() {
        LittleCompiler x = Check.with("proc p0 ( a , b ) var c begin a := a + b ; c := c + a ; d := d + c ; return c end"
            + " begin a := 1 ; b := 2 ; c := 3 ; e := p0 ( 10 , 20 ) ; f := p0 ( 1 , 1 ) end");
        due("a is its own", x.global(0), 1);
        due("b is its own", x.global(1), 2);
        due("c is its own", x.global(2), 3);
        due("d is global", x.global(3), 32);
        due("value", x.global(4), 30);
        due("locals are 0 again", x.global(5), 2);
        x = Check.with("proc p0 ( a ) var b begin b := a ; if a > 0 then p0 ( a - 1 ) end ; put b end begin p0 ( 3 ) end");
        due("frames are apart", x.output(0) * 1000 + x.output(1) * 100 + x.output(2) * 10 + x.output(3), 123);
        x = Check.with("proc p0 ( a ) begin return p1 ( ) end proc p1 ( ) begin return a end begin a := 5 ;"
            + " put p0 ( 7 ) end");
        due("another's names are global", x.output(0), 5);
        x = Check.with("proc p0 ( b , a ) begin return b - a end begin put p0 ( 9 , 4 ) end");
        due("arguments in order", x.output(0), 5);
        x = Check.with("proc p0 ( ) begin end begin a := 5 ; a := p0 ( ) end");
        due("no return gives 0", x.global(0), 0);
        x = Check.with("proc p0 ( ) begin end begin put 10 + p0 ( ) end");
        due("no return adds 0", x.output(0), 10);
        x = Check.with("proc p0 ( ) begin return 7 end proc p1 ( ) begin p0 ( ) ; return 2 end begin put 10 + p1 ( ) end");
        due("a call as a statement leaves nothing", x.output(0), 12);
        x = Check.with("proc p0 ( a ) begin if a > 1 then a := a + p0 ( a - 1 ) end ; return a end begin put p0 ( 20 ) end");
        due("back from the deepest", x.output(0), 210);
        x = Check.with("proc p0 ( ) begin if a > 0 then a := a - 1 ; return " + Check.repeated("1 + (", 28) + "p0 ( ) "
            + Check.repeated(")", 28) + "end end begin a := 19 ; put p0 ( ) end");
        due("many operands wait in each call", x.output(0), 19 * 28);
        x = Check.with("proc p0 ( ) begin while 1 do if 1 then return 4 end end end begin put p0 ( ) end");
        due("return out of loops", x.output(0), 4);
        x = Check.with("proc p0 ( a , b , c , d , e , f , g , h ) begin return a + b * 2 - h end"
            + " begin put 1 + p0 ( 1 , 2 , 3 , 4 , 5 , 6 , 7 , p0 ( 8 , 7 , 6 , 5 , 4 , 3 , 2 , 1 ) ) end");
        due("eight names", x.output(0), 1 + 1 + 4 - 21);
    }

    private static void statements() {
        String choice = "begin if a = 1 then put 10 elsif a = 2 then put 20 elsif a = 3 then put 30 else put 40 end ;"
            + " put 5 end";
        for (int a = 1; a <= 4; a++) {
            LittleCompiler x = Check.with(choice);
            x.set(0, a);
            due("choice " + a, x.output(0), 10 * a);
            due("behind choice " + a, x.output(1), 5);
            due("outs of choice " + a, x.outs(), 2);
        }
        LittleCompiler x = Check.with("begin if 0 then put 1 elsif 0 then put 2 end ; put 3 end");
        due("none of them", x.output(0), 3);
        due("one out", x.outs(), 1);
        x = Check.with("proc p0 ( a ) begin put a ; return a end begin if p0 ( 0 ) then elsif p0 ( 1 ) then elsif"
            + " p0 ( 2 ) then else end end");
        due("tests until one holds", x.outs(), 2);
        x = Check.with("begin repeat put a ; a := a + 1 until a > 2 ; put 9 end");
        due("repeat", x.outs(), 4);
        due("behind repeat", x.output(3), 9);
        x = Check.with("begin while a < 3 do b := 0 ; while b < a do put a * 10 + b ; b := b + 1 end ; a := a + 1 end end");
        due("nested loops", x.outs(), 3);
        due("nested loops last", x.output(2), 21);
        x = Check.with("begin put 1 ; return 0 ; put 2 end");
        due("return ends the run", x.outs(), 1);
    }

    private static void changesAfterAsking() {
        LittleCompiler x = Check.with("begin put 1 end");
        due("first", x.output(0), 1);
        x.untoken();
        x.untoken();
        x.four(2, 163, -1, -1);
        due("after four", x.output(0), 2);
        x.untoken();
        x.token(130);
        due("half a text", x.output(0), 0);
        due("half a text's plainSize", x.plainSize(), WRONG);
        x.token(100);
        x.token(163);
        due("whole again", x.output(0), 2);
        x.set(0, 5);
        due("after set", x.output(0), 7);
        due("refused token", x.token(999), BAD_ARG);
        due("still", x.output(0), 7);
        due("plain now", x.plainSize(), 6);
        Check.put(x, Check.tokens("begin put ( a ) end"));
        due("plain of brackets", x.plainSize(), 4);
        Check.put(x, Check.tokens("begin put m [ a ] end"));
        due("plain without brackets", x.plainSize(), 7);
        Check.put(x, Check.tokens("begin while ( ( ("));
        due("plain of an open text", x.plainSize(), WRONG);
        Check.put(x, Check.tokens("begin if 1 then put ( 2 ) end end"));
        due("plain after an open text", x.plainSize(), 8);
        due("run after an open text", x.output(0), 2);
        for (int time = 0; time < 100; time++) {
            x.token(121);
            due("spoilt", x.outs(), WRONG);
            x.untoken();
            due("mended", x.outs(), 1);
        }
        x.clear();
        due("after clear", x.run(), WRONG);
        due("globals wait", x.global(0), 0);
        x.four(171, 163, -1, -1);
        due("globals are back", x.global(0), 5);
    }
}
