import java.util.Arrays;

/** The boundaries of runs: wrap-around, cells, divisors, calls under way, numbers put out, turns, and what is set. */
public final class BoundaryRunTests {
    private static final int BAD_ARG = -1;
    private static final int WRONG = -5;
    private static final int HALTED = 0;
    private static final int TIRED = 1;
    private static final int TOO_DEEP = 2;
    private static final int FULL_UP = 3;
    private static final int DIVIDED = 4;
    private static final int LEAST = Integer.MIN_VALUE;
    private static final int MOST = Integer.MAX_VALUE;
    private static final int[] EXTREMES = {LEAST, LEAST + 1, -65537, -100, -18, -17, -16, -15, -2, -1, 0, 1, 2, 14, 15, 16,
        17, 31, 32, 99, 255, 256, 65536, MOST - 1, MOST};

    private static final Check CHECK = new Check("BoundaryRunTests");

    public static void main(String[] args) {
        arithmeticWraps();
        relationsAtTheirEdges();
        cellNumbers();
        divisorZero();
        partsThatAreNotWorkedOut();
        orderOfWork();
        callsUnderWay();
        callsUnderWayInOtherForms();
        procsInEachOrder();
        namesOfACall();
        valueOfACall();
        numbersPutOut();
        turnsOfLoops();
        turnsOfCalls();
        returnInTheLastStatements();
        loopsAndChoices();
        setBounds();
        cellBounds();
        runChangesNothing();
        runAfterRun();
        wrongRuns();
        answersOutOfRange();
        CHECK.finish();
    }

    private static void due(String call, int got, int want) {
        CHECK.due(call, got, want);
    }

    private static LittleCompiler program(String words) {
        return Check.written(Check.tokens(words));
    }

    /** How the run ends, its turns, its deepest call, and all that it puts out. */
    private static void ends(String what, LittleCompiler x, int[] found, int... outs) {
        due("run of " + what, x.run(), found[0]);
        due("turns of " + what, x.turns(), found[1]);
        due("deepest of " + what, x.deepest(), found[2]);
        due("outs of " + what, x.outs(), outs.length);
        for (int k = 0; k < outs.length; k++) {
            due("output " + k + " of " + what, x.output(k), outs[k]);
        }
        due("output behind the last of " + what, x.output(outs.length), 0);
    }

    private static int[] found(int how, int turns, int deepest) {
        return new int[] {how, turns, deepest};
    }

    private static int valueOf(String expression, int a, int b) {
        LittleCompiler x = program("begin c := " + expression + " end");
        x.set(0, a);
        x.set(1, b);
        due("run of " + expression, x.run(), HALTED);
        return x.global(2);
    }

    private static void arithmeticWraps() {
        CHECK.about("Terms: all values are Java ints; arithmetic wraps");
        for (int a : EXTREMES) {
            for (int b : EXTREMES) {
                String where = " of " + a + " and " + b;
                due("a + b" + where, valueOf("a + b", a, b), a + b);
                due("a - b" + where, valueOf("a - b", a, b), a - b);
                due("a * b" + where, valueOf("a * b", a, b), a * b);
                if (b != 0) {
                    due("a / b" + where, valueOf("a / b", a, b), a / b);
                    due("a % b" + where, valueOf("a % b", a, b), a % b);
                }
            }
            due("- a of " + a, valueOf("- a", a, 0), 0 - a);
            due("+ a of " + a, valueOf("+ a", a, 0), a);
            due("a of " + a, valueOf("a", a, 0), a);
        }
        due("the most and 1", valueOf("a + 1", MOST, 0), LEAST);
        due("the least less 1", valueOf("a - 1", LEAST, 0), MOST);
        due("the least by -1", valueOf("a / b", LEAST, -1), LEAST);
        due("the rest of the least by -1", valueOf("a % b", LEAST, -1), 0);
        due("0 less the least", valueOf("- a", LEAST, 0), LEAST);
        due("the most times itself", valueOf("a * a", MOST, 0), 1);
        due("the least times -1", valueOf("a * b", LEAST, -1), LEAST);
        CHECK.about("Terms: / and %, Java's");
        due("-7 / 2", valueOf("a / b", -7, 2), -3);
        due("-7 % 2", valueOf("a % b", -7, 2), -1);
        due("7 % -2", valueOf("a % b", 7, -2), 1);
    }

    private static void relationsAtTheirEdges() {
        CHECK.about("Terms: a relation: 1 if it holds, else 0");
        for (int a : EXTREMES) {
            for (int b : EXTREMES) {
                String where = " of " + a + " and " + b;
                due("a = b" + where, valueOf("a = b", a, b), a == b ? 1 : 0);
                due("a # b" + where, valueOf("a # b", a, b), a != b ? 1 : 0);
                due("a < b" + where, valueOf("a < b", a, b), a < b ? 1 : 0);
                due("a <= b" + where, valueOf("a <= b", a, b), a <= b ? 1 : 0);
                due("a > b" + where, valueOf("a > b", a, b), a > b ? 1 : 0);
                due("a >= b" + where, valueOf("a >= b", a, b), a >= b ? 1 : 0);
                due("a & b" + where, valueOf("a & b", a, b), a != 0 && b != 0 ? 1 : 0);
                due("a or b" + where, valueOf("a or b", a, b), a != 0 || b != 0 ? 1 : 0);
            }
            due("~ a of " + a, valueOf("~ a", a, 0), a == 0 ? 1 : 0);
            due("~ ~ a of " + a, valueOf("~ ~ a", a, 0), a != 0 ? 1 : 0);
        }
    }

    private static void cellNumbers() {
        CHECK.about("Terms: m [ E ]: the cell with the number E & 15");
        LittleCompiler reader = program("begin b := m [ a ] end");
        for (int i = 0; i < 16; i++) {
            reader.cell(i, 1000 + i);
        }
        for (int e : EXTREMES) {
            reader.set(0, e);
            due("m [ " + e + " ]", reader.global(1), 1000 + (e & 15));
        }
        CHECK.about("Terms: m [ I ] := E: the cell I & 15 gets the value");
        for (int e : EXTREMES) {
            LittleCompiler writer = program("begin m [ a ] := 77 end");
            writer.set(0, e);
            for (int i = 0; i < 16; i++) {
                due("cell " + i + " behind m [ " + e + " ] := 77", writer.cellAfter(i), i == (e & 15) ? 77 : 0);
            }
        }
        due("15 is the last", program("begin m [ 15 ] := 5 end").cellAfter(15), 5);
        due("16 is the first again", program("begin m [ 16 ] := 5 end").cellAfter(0), 5);
        due("-1 is the last", program("begin m [ - 1 ] := 5 end").cellAfter(15), 5);
    }

    private static void divisorZero() {
        CHECK.about("Terms: if the divisor is 0 the run ends DIVIDED");
        for (String operator : new String[] {"/", "%"}) {
            for (int a : EXTREMES) {
                LittleCompiler x = program("begin c := 5 ; c := a " + operator + " b ; d := 6 end");
                x.set(0, a);
                due(a + " " + operator + " 0", x.run(), DIVIDED);
                due("what was done before", x.global(2), 5);
                due("what was to be done behind it", x.global(3), 0);
                x.set(1, 1);
                due(a + " " + operator + " 1", x.run(), HALTED);
                x.set(1, -1);
                due(a + " " + operator + " -1", x.run(), HALTED);
                due("and so on", x.global(3), 6);
            }
            ends("a cell" + operator, program("begin m [ 3 ] := 4 ; m [ 3 ] := 1 " + operator + " 0 end"),
                found(DIVIDED, 0, 0));
            due("the cell keeps its value", program("begin m [ 3 ] := 4 ; m [ 3 ] := 1 " + operator + " 0 end").cellAfter(3),
                4);
            ends("both sides are worked out " + operator, program("proc p0 ( a ) begin put a ; return a end begin"
                + " put 9 ; b := p0 ( 1 ) " + operator + " p0 ( 0 ) ; put 8 end"), found(DIVIDED, 2, 1), 9, 1, 0);
            ends("in a proc " + operator, program("proc p0 ( ) begin p1 ( ) ; put 2 end proc p1 ( ) begin a := 1 "
                + operator + " a end begin put 1 ; p0 ( ) ; put 3 end"), found(DIVIDED, 2, 2), 1);
            ends("in a test " + operator, program("begin while 1 " + operator + " 0 do end end"), found(DIVIDED, 0, 0));
            ends("in until " + operator, program("begin repeat put 4 until 1 " + operator + " 0 end"),
                found(DIVIDED, 1, 0), 4);
            ends("in an argument " + operator, program("proc p0 ( a ) begin end begin p0 ( 1 " + operator + " 0 ) end"),
                found(DIVIDED, 0, 0));
            ends("in an index " + operator, program("begin m [ 1 " + operator + " 0 ] := 5 end"), found(DIVIDED, 0, 0));
        }
    }

    private static void partsThatAreNotWorkedOut() {
        CHECK.about("Terms: A & B: 0 if A is 0, and B is not worked out then");
        ends("0 & B", program("begin put 0 & ( 1 / 0 ) end"), found(HALTED, 0, 0), 0);
        ends("0 & B behind an operand", program("begin put 5 - ( 0 & ( 1 / 0 ) ) end"), found(HALTED, 0, 0), 5);
        ends("only B is not worked out", program("begin put 0 & 1 * ( 1 / 0 ) end"), found(DIVIDED, 0, 0));
        ends("1 & B", program("begin put 1 & ( 1 / 0 ) end"), found(DIVIDED, 0, 0));
        ends("-1 & B", program("begin put ( - 1 ) & ( 1 / 0 ) end"), found(DIVIDED, 0, 0));
        CHECK.about("Terms: A or B: 1 if A is not 0, and B is not worked out then");
        ends("1 or B", program("begin put 1 or 1 / 0 end"), found(HALTED, 0, 0), 1);
        ends("-1 or B", program("begin put - 1 or 1 / 0 end"), found(HALTED, 0, 0), 1);
        ends("0 or B", program("begin put 0 or 1 / 0 end"), found(DIVIDED, 0, 0));
        ends("1 or B behind an operand", program("begin put 5 - ( 1 or 1 / 0 ) end"), found(HALTED, 0, 0), 4);
        ends("B of or alone is not worked out", program("begin put 1 or 0 + 1 / 0 end"), found(DIVIDED, 0, 0));
        CHECK.about("Terms: the expressions are worked out in order until one is not 0");
        ends("if", program("begin if 0 then put 1 elsif 2 then put 2 elsif 1 / 0 then put 3 else put 4 end end"),
            found(HALTED, 0, 0), 2);
        ends("if 1", program("begin if 1 then elsif 1 / 0 then end end"), found(HALTED, 0, 0));
        ends("if -1", program("begin if - 1 then put 1 else put 2 end end"), found(HALTED, 0, 0), 1);
        ends("none", program("begin if 0 then put 1 elsif 0 then put 2 end ; put 3 end"), found(HALTED, 0, 0), 3);
        ends("else", program("begin if 0 then put 1 elsif 0 then put 2 else put 4 end ; put 3 end"),
            found(HALTED, 0, 0), 4, 3);
    }

    private static void orderOfWork() {
        String head = "proc p0 ( a ) begin put a ; b := a ; m [ 2 ] := a ; return a end begin ";
        CHECK.about("Terms: expressions are worked out from left to right");
        for (String operator : new String[] {"+", "-", "*", "/", "%", "=", "#", "<", "<=", ">", ">=", "&"}) {
            ends("operands of " + operator, program(head + "c := p0 ( 1 ) " + operator + " p0 ( 2 ) end"),
                found(HALTED, 2, 1), 1, 2);
        }
        ends("a name in its turn", program(head + "b := 5 ; put b - p0 ( 3 ) - b end"), found(HALTED, 1, 1), 3, -1);
        ends("a cell in its turn", program(head + "put m [ 2 ] - p0 ( 3 ) - m [ 2 ] end"), found(HALTED, 1, 1), 3, -6);
        CHECK.about("Terms: name := E: E is worked out, then the name gets the value");
        LittleCompiler name = program(head + "b := p0 ( 6 ) + 1 end");
        ends("a name that E sets", name, found(HALTED, 1, 1), 6);
        due("the name's value", name.global(1), 7);
        CHECK.about("Terms: m [ I ] := E: I, then E is worked out, then the cell I & 15 gets the value");
        LittleCompiler cell = program(head + "m [ p0 ( 2 ) ] := p0 ( 8 ) + 1 end");
        ends("a cell that E sets", cell, found(HALTED, 2, 1), 2, 8);
        due("the cell's value", cell.cellAfter(2), 9);
        due("no other cell", cell.cellAfter(8), 0);
        LittleCompiler index = program(head + "b := 4 ; m [ b ] := p0 ( 8 ) end");
        due("the index before E", index.cellAfter(4), 8);
        due("not the index behind E", index.cellAfter(8), 0);
        ends("the index divides first", program(head + "m [ 1 / 0 ] := p0 ( 1 ) end"), found(DIVIDED, 0, 0));
        CHECK.about("Terms: a call: its expressions are worked out in order");
        ends("expressions of a call", program("proc p1 ( a , b , c ) begin put a * 2 + b + c end " + head
            + "p1 ( p0 ( 1 ) , p0 ( 2 ) , p0 ( 3 ) ) end"), found(HALTED, 4, 1), 1, 2, 3, 7);
        CHECK.about("Terms: ~ F and a sign in front of a term");
        due("- a * b", valueOf("- a * b", LEAST, 3), LEAST);
        due("- a + b", valueOf("- a + b", 5, 3), -2);
        due("- a % b", valueOf("- a % b", 7, 4), -3);
        due("~ a + b", valueOf("~ a + b", 0, 3), 4);
        due("~ a * b", valueOf("~ a * b", 0, 3), 3);
    }

    private static LittleCompiler nest(int calls) {
        LittleCompiler x = program("proc p0 ( a ) begin b := b + 1 ; if a > 1 then p0 ( a - 1 ) end ; d := d + 1 end"
            + " begin p0 ( c ) ; put b end");
        x.set(2, calls);
        return x;
    }

    private static void callsUnderWay() {
        CHECK.about("Terms: if 20 calls are under way the run ends TOO_DEEP");
        for (int calls = 1; calls <= 20; calls++) {
            LittleCompiler x = nest(calls);
            ends(calls + " calls", x, found(HALTED, calls, calls), calls);
            due("all come back", x.global(3), calls);
        }
        for (int calls : new int[] {21, 22, 99}) {
            LittleCompiler x = nest(calls);
            ends(calls + " calls", x, found(TOO_DEEP, 21, 20));
            due("20 are begun", x.global(1), 20);
            due("none comes back", x.global(3), 0);
        }
        String around = "proc p0 ( a ) begin if a = 0 then return 0 end ; return p";
        ends("two procs, 20 calls", program(around + "1 ( a - 1 ) + 1 end proc p1 ( a ) begin if a = 0 then return 0 end ;"
            + " return p0 ( a - 1 ) + 1 end begin put p0 ( 19 ) end"), found(HALTED, 20, 20), 19);
        ends("two procs, 21 calls", program(around + "1 ( a - 1 ) + 1 end proc p1 ( a ) begin if a = 0 then return 0 end ;"
            + " return p0 ( a - 1 ) + 1 end begin put p0 ( 20 ) end"), found(TOO_DEEP, 21, 20));
        String ring = "proc p0 ( ) begin a := a + 1 ; p1 ( ) end proc p1 ( ) begin a := a + 1 ; p2 ( ) end"
            + " proc p2 ( ) begin a := a + 1 ; p3 ( ) end proc p3 ( ) begin a := a + 1 ; if a < b then p0 ( ) end end"
            + " begin p0 ( ) ; put a end";
        LittleCompiler x = program(ring);
        x.set(1, 20);
        ends("four procs, 20 calls", x, found(HALTED, 20, 20), 20);
        x.set(1, 21);
        ends("four procs, 21 calls", x, found(TOO_DEEP, 21, 20));
    }

    private static void callsUnderWayInOtherForms() {
        CHECK.about("Terms: a call that has ended is not under way");
        LittleCompiler again = program("proc p0 ( a ) begin if a > 1 then p0 ( a - 1 ) end end"
            + " begin p0 ( 20 ) ; p0 ( 20 ) ; put 1 ; p0 ( 20 ) end");
        ends("20 deep three times", again, found(HALTED, 60, 20), 1);
        ends("30 calls one after the other", program("proc p0 ( ) begin end begin while a < 30 do a := a + 1 ; p0 ( ) end"
            + " end"), found(HALTED, 60, 1));
        ends("30 that a return ends in a loop", program("proc p0 ( ) begin while 1 do repeat return 1 until 1 end end"
            + " begin while a < 30 do a := a + p0 ( ) end end"), found(HALTED, 120, 1));
        ends("two from the same depth", program("proc p0 ( a ) begin if a > 1 then p0 ( a - 1 ) ; if a < 4 then"
            + " p0 ( a - 1 ) end end end begin p0 ( 20 ) end"), found(HALTED, 24, 20));
        CHECK.about("Terms: a call: its expressions are worked out in order; then a turn is taken");
        ends("30 calls as arguments", program("proc p0 ( a ) begin return a + 1 end begin put "
            + Check.repeated("p0 (", 30) + "0 " + Check.repeated(")", 30) + "end"), found(HALTED, 30, 1), 30);
        String last = "proc p0 ( a ) begin if a = 20 then put 1 ; p0 ( p1 ( ) ) else p0 ( a + 1 ) end end"
            + " proc p1 ( ) begin put 2 end begin p0 ( 1 ) end";
        ends("the argument of the 21st is a 21st itself", program(last), found(TOO_DEEP, 21, 20), 1);
        ends("the argument of the 21st is worked out", program("proc p0 ( a ) begin if a = 20 then p0 ( 1 / 0 ) else"
            + " p0 ( a + 1 ) end end begin p0 ( 1 ) end"), found(DIVIDED, 20, 20));
    }

    private static void procsInEachOrder() {
        CHECK.about("Terms: the proc's statements are done");
        for (int order = 0; order < 256; order++) {
            int[] procs = {order & 3, order >> 2 & 3, order >> 4 & 3, order >> 6};
            StringBuilder words = new StringBuilder();
            int seen = 0;
            for (int p : procs) {
                words.append("proc p").append(p).append(" ( a ) begin return a * 10 + ").append(p).append(" end ");
                seen |= 1 << p;
            }
            if (seen == 15) {
                LittleCompiler x = program(words + "begin put p0 ( 1 ) ; put p1 ( 2 ) ; put p2 ( 3 ) ; put p3 ( 4 ) end");
                ends("procs in order " + order, x, found(HALTED, 4, 1), 10, 21, 32, 43);
            }
        }
    }

    private static void namesOfACall() {
        CHECK.about("Terms: with its first names the values, those behind var 0");
        String head = "proc p0 ( a , b ) var c , d begin put a ; put b ; put c ; put d ; a := 5 ; b := 6 ; c := 7 ; d := 8 ;"
            + " e := 9 end ";
        LittleCompiler x = program(head + "begin a := 1 ; b := 2 ; c := 3 ; d := 4 ; p0 ( 11 , 12 ) ; p0 ( 13 , 14 ) end");
        ends("two calls", x, found(HALTED, 2, 1), 11, 12, 0, 0, 13, 14, 0, 0);
        for (int g = 0; g < 4; g++) {
            due("global " + g + " stays", x.global(g), g + 1);
        }
        due("another name is a global", x.global(4), 9);
        LittleCompiler eight = program("proc p0 ( h , g , f , e , d , c , b , a ) begin return h + g * 2 + f * 3 + e * 4 +"
            + " d * 5 + c * 6 + b * 7 + a * 8 end begin put p0 ( 1 , 10 , 20 , 30 , 40 , 50 , 60 , 70 ) end");
        ends("eight names", eight, found(HALTED, 1, 1), 1 + 20 + 60 + 120 + 200 + 300 + 420 + 560);
        LittleCompiler locals = program("proc p0 ( ) var a , b , c , d , e , f , g , h begin put a + b + c + d + e + f + g +"
            + " h ; a := 1 ; h := 1 end begin a := 2 ; h := 3 ; p0 ( ) ; p0 ( ) ; put a * 10 + h end");
        ends("eight behind var", locals, found(HALTED, 2, 1), 0, 0, 23);
        ends("each of 20 calls has its own", program("proc p0 ( a ) var b begin b := a ; if a < 20 then p0 ( a + 1 ) end ;"
            + " put b end begin p0 ( 1 ) end"), found(HALTED, 20, 20), 20, 19, 18, 17, 16, 15, 14, 13, 12, 11, 10, 9, 8,
            7, 6, 5, 4, 3, 2, 1);
        ends("m belongs to all", program("proc p0 ( ) begin m [ 0 ] := m [ 0 ] + 1 end begin p0 ( ) ; p0 ( ) ; put m [ 0 ]"
            + " end"), found(HALTED, 2, 1), 2);
    }

    private static void valueOfACall() {
        CHECK.about("Terms: its value is that of the return that ends it, or 0 if none does");
        ends("no return", program("proc p0 ( ) begin a := 5 end begin put p0 ( ) + 3 end"), found(HALTED, 1, 1), 3);
        ends("no return behind an operand", program("proc p0 ( a ) begin end begin put 10 + p0 ( 5 ) end"),
            found(HALTED, 1, 1), 10);
        ends("a call as a statement leaves nothing behind", program("proc p0 ( ) begin return 7 end proc p1 ( ) begin"
            + " p0 ( ) ; p0 ( ) end begin put 10 - p1 ( ) - 1 end"), found(HALTED, 3, 2), 9);
        ends("a return that is not reached", program("proc p0 ( a ) begin if a then return 4 end end begin put p0 ( 0 ) ;"
            + " put p0 ( 1 ) ; put p0 ( 0 ) end"), found(HALTED, 3, 1), 0, 4, 0);
        ends("the first return", program("proc p0 ( ) begin return 1 ; return 2 end begin put p0 ( ) end"),
            found(HALTED, 1, 1), 1);
        ends("empty statements", program("proc p0 ( ) begin ; ; end begin put p0 ( ) end"), found(HALTED, 1, 1), 0);
        ends("not that of a call inside", program("proc p0 ( ) begin return 9 end proc p1 ( ) begin p0 ( ) end begin"
            + " put p1 ( ) end"), found(HALTED, 2, 2), 0);
        LittleCompiler x = program("proc p0 ( ) begin return a end begin put p0 ( ) end");
        for (int e : EXTREMES) {
            x.set(0, e);
            due("return " + e, x.output(0), e);
        }
    }

    private static LittleCompiler puts(int times) {
        LittleCompiler x = program("begin while a < b do put a * a ; a := a + 1 end ; c := 1 end");
        x.set(1, times);
        return x;
    }

    private static void numbersPutOut() {
        CHECK.about("Terms: put E: if 20 numbers were put out before, the run ends FULL_UP instead");
        for (int times = 0; times <= 22; times++) {
            LittleCompiler x = puts(times);
            int[] outs = new int[Math.min(times, 20)];
            for (int k = 0; k < outs.length; k++) {
                outs[k] = k * k;
            }
            ends(times + " puts", x, times <= 20 ? found(HALTED, times, 0) : found(FULL_UP, 21, 0), outs);
            due("a behind " + times + " puts", x.global(0), Math.min(times, 20));
            due("c behind " + times + " puts", x.global(2), times <= 20 ? 1 : 0);
        }
        String nineteen = "proc p0 ( ) begin put 7 ; a := a + 1 ; return 8 end begin while a < 19 do p0 ( ) end ; ";
        int[] twenty = new int[20];
        Arrays.fill(twenty, 7);
        LittleCompiler inside = program(nineteen + "put p0 ( ) ; a := 99 end");
        ends("a put while the number is worked out", inside, found(FULL_UP, 39, 1), twenty);
        due("the number was worked out", inside.global(0), 20);
        LittleCompiler deep = program(nineteen + "p0 ( ) ; p0 ( ) ; a := 99 end");
        ends("the 21st in a call", deep, found(FULL_UP, 40, 1), twenty);
        due("nothing behind it", deep.global(0), 20);
        LittleCompiler extremes = program("begin put a ; put b ; put 0 end");
        extremes.set(0, LEAST);
        extremes.set(1, MOST);
        ends("any number", extremes, found(HALTED, 0, 0), LEAST, MOST, 0);
        CHECK.about("Terms: put E: E is put out, so it is worked out first");
        ends("E divides behind 20 numbers", program("begin while a < 20 do put 7 ; a := a + 1 end ; put 1 / 0 end"),
            found(DIVIDED, 20, 0), twenty);
    }

    private static LittleCompiler with(String words, int b) {
        LittleCompiler x = program(words);
        x.set(1, b);
        return x;
    }

    private static void turnsOfLoops() {
        CHECK.about("Terms: a turn: if 300 turns were taken before, the run ends TIRED (while)");
        String loop = "begin while a < b do a := a + 1 end ; c := 1 end";
        for (int b : new int[] {0, 1, 299, 300}) {
            ends("while " + b, with(loop, b), found(HALTED, b, 0));
            due("a behind while " + b, with(loop, b).global(0), b);
            due("c behind while " + b, with(loop, b).global(2), 1);
        }
        for (int b : new int[] {301, 302, MOST}) {
            ends("while " + b, with(loop, b), found(TIRED, 300, 0));
            due("a behind while " + b, with(loop, b).global(0), 300);
            due("c behind while " + b, with(loop, b).global(2), 0);
        }
        CHECK.about("Terms: a turn: if 300 turns were taken before, the run ends TIRED (repeat)");
        String repeat = "begin repeat a := a + 1 until a >= b ; c := 1 end";
        for (int b : new int[] {0, 1, 2, 299, 300}) {
            ends("repeat " + b, with(repeat, b), found(HALTED, Math.max(b, 1), 0));
            due("c behind repeat " + b, with(repeat, b).global(2), 1);
        }
        ends("repeat 301", with(repeat, 301), found(TIRED, 300, 0));
        due("a behind repeat 301", with(repeat, 301).global(0), 300);
        due("c behind repeat 301", with(repeat, 301).global(2), 0);
        CHECK.about("Terms: while: E is worked out; if it is not 0, a turn is taken");
        String divided = "begin while 1 / ( b - a ) or 1 do a := a + 1 end end";
        ends("E divides behind 300 turns", with(divided, 300), found(DIVIDED, 300, 0));
        ends("E does not divide behind 300 turns", with(divided, 301), found(TIRED, 300, 0));
        ends("while behind 300 turns that is not begun", with("begin while a < b do a := a + 1 end ; while 0 do end ;"
            + " put 1 end", 300), found(HALTED, 300, 0), 1);
        CHECK.about("Terms: repeat: a turn is taken, S is done, E is worked out");
        ends("repeat behind 299 turns", with("begin while a < b do a := a + 1 end ; repeat put 1 until 1 end", 299),
            found(HALTED, 300, 0), 1);
        ends("repeat behind 300 turns", with("begin while a < b do a := a + 1 end ; repeat put 1 until 1 / 0 end", 300),
            found(TIRED, 300, 0));
        ends("until behind 300 turns", with("begin while a < b do a := a + 1 end ; repeat put 1 until 1 / 0 end", 299),
            found(DIVIDED, 300, 0), 1);
        ends("empty loops", program("begin while 1 do end end"), found(TIRED, 300, 0));
        ends("empty repeats", program("begin repeat until 0 end"), found(TIRED, 300, 0));
        ends("loops in one another", with("begin while 1 do c := 0 ; while c < 9 do c := c + 1 ; a := a + 1 end end end", 0),
            found(TIRED, 300, 0));
        due("turns of the inner one", program("begin while 1 do c := 0 ; while c < 9 do c := c + 1 ; a := a + 1 end end"
            + " end").global(0), 270);
    }

    private static void turnsOfCalls() {
        CHECK.about("Terms: a turn: if 300 turns were taken before, the run ends TIRED (call)");
        String call = "proc p0 ( ) begin put 5 end begin while a < b do a := a + 1 end ; p0 ( ) ; put 6 end";
        ends("the 300th turn", with(call, 299), found(HALTED, 300, 1), 5, 6);
        ends("the 301st turn", with(call, 300), found(TIRED, 300, 0));
        ends("one after the other", program("proc p0 ( ) begin a := a + 1 end begin while 1 do p0 ( ) end end"),
            found(TIRED, 300, 1));
        due("150 calls", program("proc p0 ( ) begin a := a + 1 end begin while 1 do p0 ( ) end end").global(0), 150);
        CHECK.about("Terms: its expressions are worked out; then a turn is taken");
        ends("the argument divides behind 300 turns", with("proc p0 ( a ) begin end begin while c < b do c := c + 1 end ;"
            + " p0 ( 1 / 0 ) end", 300), found(DIVIDED, 300, 0));
        CHECK.about("Terms: a turn is taken; if 20 calls are under way");
        String deep = "proc p0 ( a ) begin if a = 20 then while c < b do c := c + 1 end end ; p0 ( a + 1 ) end begin"
            + " p0 ( 1 ) end";
        ends("the 300th turn is the 21st call's", with(deep, 279), found(TOO_DEEP, 300, 20));
        ends("the 301st turn is the 21st call's", with(deep, 280), found(TIRED, 300, 20));
        ends("the 301st turn is a loop's, 20 deep", with(deep, 281), found(TIRED, 300, 20));
        String both = "begin while a < b do a := a + 1 end ; while 1 do put 1 end end";
        int[] ones = new int[20];
        Arrays.fill(ones, 1);
        ends("the 21st number in turn 300", with(both, 279), found(FULL_UP, 300, 0), ones);
        ends("the 21st number in turn 301", with(both, 280), found(TIRED, 300, 0), ones);
    }

    private static void returnInTheLastStatements() {
        CHECK.about("Terms: return E: in the last STATEMENTS the run ends HALTED");
        ends("return", program("begin put 1 ; return 5 ; put 2 end"), found(HALTED, 0, 0), 1);
        ends("return in loops", program("begin while 1 do repeat put 1 ; if 1 then return 0 end until 0 end ; put 2 end"),
            found(HALTED, 2, 0), 1);
        CHECK.about("Promise 21: return E: E is worked out first, also in the last STATEMENTS");
        ends("return 1 / 0", program("begin put 1 ; return 1 / 0 end"), found(DIVIDED, 0, 0), 1);
        ends("return of a call", program("proc p0 ( ) begin put 2 ; return 3 end begin put 1 ; return p0 ( ) ; put 4 end"),
            found(HALTED, 1, 1), 1, 2);
        ends("return of a call too deep", program("proc p0 ( ) begin return p0 ( ) end begin return p0 ( ) end"),
            found(TOO_DEEP, 21, 20));
        ends("return 1 / 0 in a proc", program("proc p0 ( ) begin return 1 / 0 end begin p0 ( ) ; put 1 end"),
            found(DIVIDED, 1, 1));
        LittleCompiler x = program("proc p0 ( ) begin a := 7 ; return 0 end begin return p0 ( ) end");
        due("what E does is done", x.global(0), 7);
        ends("return behind 300 turns", with("proc p0 ( ) begin end begin while a < b do a := a + 1 end ; return p0 ( ) end",
            300), found(TIRED, 300, 0));
        CHECK.about("Promise 21: a proc may be called by procs that stand before it");
        ends("p0 calls p3", program("proc p0 ( a ) begin return p3 ( a , 2 ) end proc p3 ( b , a ) begin return b * a end"
            + " begin put p0 ( 21 ) end"), found(HALTED, 2, 2), 42);
        CHECK.about("Terms: at its end a run ends HALTED");
        ends("nothing", program("begin end"), found(HALTED, 0, 0));
        ends("nothing but semicolons", program("begin ; ; end"), found(HALTED, 0, 0));
        ends("a proc that is not called", program("proc p0 ( ) begin put 1 / 0 end begin end"), found(HALTED, 0, 0));
    }

    private static void loopsAndChoices() {
        CHECK.about("Terms: while E do S end: if it is not 0");
        for (int e : new int[] {LEAST, -1, 1, 2, MOST}) {
            LittleCompiler loop = program("begin while a do put 1 ; a := 0 end end");
            loop.set(0, e);
            ends("while " + e, loop, found(HALTED, 1, 0), 1);
            LittleCompiler repeat = program("begin repeat put 1 until a end");
            repeat.set(0, e);
            ends("until " + e, repeat, found(HALTED, 1, 0), 1);
            LittleCompiler choice = program("begin if a then put 1 else put 2 end end");
            choice.set(0, e);
            ends("if " + e, choice, found(HALTED, 0, 0), 1);
        }
        choicesOfEachLength();
        ends("while 0", program("begin while a do put 1 end end"), found(HALTED, 0, 0));
        ends("if 0", program("begin if a then put 1 else put 2 end end"), found(HALTED, 0, 0), 2);
        ends("until 0", program("begin repeat put 1 ; b := b + 1 until b = 2 end"), found(HALTED, 2, 0), 1, 1);
    }

    private static void choicesOfEachLength() {
        for (int parts = 1; parts <= 6; parts++) {
            StringBuilder words = new StringBuilder("begin put 90 ; if a = 1 then put 1");
            for (int part = 2; part <= parts; part++) {
                words.append(" elsif a = ").append(part).append(" then put ").append(part);
            }
            LittleCompiler without = program(words + " end ; put 91 end");
            LittleCompiler with = program(words + " else put 80 end ; put 91 end");
            for (int a = 0; a <= parts + 1; a++) {
                without.set(0, a);
                with.set(0, a);
                boolean one = a >= 1 && a <= parts;
                int[] outs = one ? new int[] {90, a, 91} : new int[] {90, 91};
                ends("part " + a + " of " + parts, without, found(HALTED, 0, 0), outs);
                ends("part " + a + " of " + parts + " and else", with, found(HALTED, 0, 0), 90, one ? a : 80, 91);
            }
        }
    }

    private static void setBounds() {
        CHECK.about("Promise 9: BAD_ARG if g is not 0 to 7");
        for (int g : new int[] {LEAST, -100, -2, -1, 8, 9, 15, 16, 99, 100, 107, 108, MOST}) {
            LittleCompiler x = program("begin end");
            for (int k = 0; k < 8; k++) {
                x.set(k, 50 + k);
            }
            for (int i = 0; i < 16; i++) {
                x.cell(i, 80 + i);
            }
            due("set " + g, x.set(g, 7), BAD_ARG);
            for (int k = 0; k < 8; k++) {
                due("global " + k + " behind set " + g, x.global(k), 50 + k);
            }
            for (int i = 0; i < 16; i++) {
                due("cell " + i + " behind set " + g, x.cellAfter(i), 80 + i);
            }
        }
        CHECK.about("Promise 9: global g is set to x at the begin of runs, otherwise 0");
        for (int g = 0; g < 8; g++) {
            for (int e : EXTREMES) {
                LittleCompiler x = program("begin end");
                due("set " + g + " to " + e, x.set(g, e), 0);
                for (int k = 0; k < 8; k++) {
                    due("global " + k + " behind set " + g, x.global(k), k == g ? e : 0);
                }
                due("cell behind set", x.cellAfter(g), 0);
                due("set " + g + " to 3", x.set(g, 3), 0);
                due("the last set counts", x.global(g), 3);
            }
        }
        LittleCompiler early = new LittleCompiler();
        due("set without a text", early.set(7, 9), 0);
        early.four(171, 163, -1, -1);
        due("it counts for a text that comes later", early.global(7), 9);
    }

    private static void cellBounds() {
        CHECK.about("Promise 10: BAD_ARG if i is not 0 to 15");
        for (int cell : new int[] {LEAST, -100, -16, -2, -1, 16, 17, 31, 32, 99, 108, MOST}) {
            LittleCompiler x = program("begin end");
            for (int i = 0; i < 16; i++) {
                x.cell(i, 80 + i);
            }
            x.set(0, 4);
            due("cell " + cell, x.cell(cell, 7), BAD_ARG);
            for (int i = 0; i < 16; i++) {
                due("cell " + i + " behind cell " + cell, x.cellAfter(i), 80 + i);
            }
            due("global behind cell " + cell, x.global(0), 4);
        }
        CHECK.about("Promise 10: cell i of m is set to x at the begin of runs, otherwise 0");
        for (int cell = 0; cell < 16; cell++) {
            LittleCompiler x = program("begin put m [ a ] end");
            x.set(0, cell);
            for (int e : EXTREMES) {
                due("cell " + cell + " to " + e, x.cell(cell, e), 0);
                due("m [ " + cell + " ]", x.output(0), e);
            }
            for (int i = 0; i < 16; i++) {
                due("cell " + i + " behind cell " + cell, x.cellAfter(i), i == cell ? MOST : 0);
            }
            due("another global", x.global(1), 0);
        }
        LittleCompiler early = new LittleCompiler();
        due("cell without a text", early.cell(15, 9), 0);
        early.four(171, 163, -1, -1);
        due("it counts for a text that comes later", early.cellAfter(15), 9);
    }

    private static void runChangesNothing() {
        CHECK.about("Terms: a run begins with the globals and cells as they were set; it does not change these");
        LittleCompiler x = program("begin a := a + 1 ; h := h + 1 ; m [ 0 ] := m [ 0 ] + 1 ; m [ 15 ] := m [ 15 ] + 1 ;"
            + " put a ; put m [ 15 ] end");
        x.set(0, 10);
        x.set(7, MOST);
        x.cell(0, 20);
        x.cell(15, LEAST);
        for (int time = 0; time < 4; time++) {
            ends("run " + time, x, found(HALTED, 0, 0), 11, LEAST + 1);
            due("global 0 in run " + time, x.global(0), 11);
            due("global 7 in run " + time, x.global(7), LEAST);
            due("cell 0 in run " + time, x.cellAfter(0), 21);
            due("cell 15 in run " + time, x.cellAfter(15), LEAST + 1);
        }
        x.clear();
        x.four(171, 163, -1, -1);
        due("global 0 as set", x.global(0), 10);
        due("global 7 as set", x.global(7), MOST);
        due("cell 0 as set", x.cellAfter(0), 20);
        due("cell 15 as set", x.cellAfter(15), LEAST);
        x.set(0, 1);
        due("and set anew", x.global(0), 1);
        due("the others stay", x.global(7), MOST);
    }

    /** What a run that ended in the middle of an expression left is to be gone in the next. */
    private static void runAfterRun() {
        CHECK.about("What it is: an object is used for at most 512 calls");
        LittleCompiler x = program("proc p0 ( ) begin if a > 0 then a := a - 1 ; return " + Check.repeated("1 + (", 28)
            + "p0 ( ) " + Check.repeated(")", 28) + "end end begin put p0 ( ) end");
        int calls = 38;
        for (int time = 0; calls + 4 <= 512; time++) {
            x.set(0, 20);
            due("too deep, time " + time, x.run(), TOO_DEEP);
            x.set(0, 19);
            due("just deep enough, time " + time, x.output(0), 19 * 28);
            calls += 4;
        }
    }

    private static void wrongRuns() {
        CHECK.about("Promises 11 to 17: WRONG, the text is no program, or has a fault");
        String[] texts = {"", "begin", "end", "begin a := 5 ; m [ 0 ] := 5 ; put 5", "begin put 5 end end",
            "begin a := 5 ; put 5 ; p0 ( ) end", "begin return 0 ; p0 ( ) end",
            "proc p0 ( ) begin end proc p0 ( ) begin end begin put 5 end",
            "proc p0 ( a , a ) begin end begin put 5 end", "proc p0 ( a ) begin end begin put 5 ; p0 ( ) end"};
        for (String text : texts) {
            LittleCompiler x = program(text);
            x.set(0, 3);
            x.cell(0, 4);
            due("run of " + text, x.run(), WRONG);
            due("outs of " + text, x.outs(), WRONG);
            due("turns of " + text, x.turns(), WRONG);
            due("deepest of " + text, x.deepest(), WRONG);
            due("output of " + text, x.output(0), 0);
            due("global of " + text, x.global(0), 0);
            due("cellAfter of " + text, x.cellAfter(0), 0);
        }
    }

    private static void answersOutOfRange() {
        LittleCompiler x = program("begin while a < 20 do a := a + 1 ; put 50 + a end ; h := 8 ; m [ 0 ] := 9 ;"
            + " m [ 15 ] := 10 end");
        CHECK.about("Promise 13: 0 is the first; 0 if there is none");
        due("outs", x.outs(), 20);
        due("output 0", x.output(0), 51);
        due("output 19", x.output(19), 70);
        for (int k : new int[] {LEAST, -20, -1, 20, 21, 300, MOST}) {
            due("output " + k, x.output(k), 0);
        }
        CHECK.about("Promise 14: 0 if g is not 0 to 7");
        due("global 0", x.global(0), 20);
        due("global 7", x.global(7), 8);
        for (int g : new int[] {LEAST, -8, -1, 8, 9, 100, 107, MOST}) {
            due("global " + g, x.global(g), 0);
        }
        CHECK.about("Promise 15: 0 if i is not 0 to 15");
        due("cellAfter 0", x.cellAfter(0), 9);
        due("cellAfter 15", x.cellAfter(15), 10);
        for (int i : new int[] {LEAST, -16, -1, 16, 17, 31, 32, 108, MOST}) {
            due("cellAfter " + i, x.cellAfter(i), 0);
        }
    }
}
