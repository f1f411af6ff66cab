/** The boundaries of the text: which numbers are tokens, and how many tokens there may be. */
public final class BoundaryTextTests {
    private static final int BAD_ARG = -1;
    private static final int FULL = -2;
    private static final int NONE = -4;
    private static final int WRONG = -5;
    private static final int LEAST = Integer.MIN_VALUE;
    private static final int MOST = Integer.MAX_VALUE;

    // The first and the last token of each row of the document.
    private static final int[][] ROWS = {{0, 99}, {100, 107}, {108, 108}, {110, 113}, {120, 126}, {130, 134},
        {140, 145}, {150, 152}, {160, 173}};
    private static final int[] NO_TOKENS = {LEAST, LEAST + 1, -100, -2, 109, 114, 119, 127, 129, 135, 139, 146, 149, 153,
        159, 174, 256, 1 << 16, MOST - 1, MOST};

    private static final Check CHECK = new Check("BoundaryTextTests");

    public static void main(String[] args) {
        newObject();
        whichNumbersAreTokens();
        whatSortEachTokenIs();
        tokenWhenFull();
        tokenTestsItsArgumentFirst();
        fourLeavesOutMinusOne();
        fourRefusesOneThatIsNoToken();
        fourWhenFull();
        untokenOfAnEmptyText();
        untokenOfAFullText();
        clearOfEachText();
        tokensFromNoneToFull();
        calls512();
        CHECK.finish();
    }

    private static void due(String call, int got, int want) {
        CHECK.due(call, got, want);
    }

    private static LittleCompiler ofLength(int length) {
        int[] tokens = new int[length];
        for (int i = 0; i < length; i++) {
            tokens[i] = i % 100;
        }
        return Check.written(tokens);
    }

    /** Takes off what stands there, the last first. */
    private static void holdsOnly(LittleCompiler x, int length) {
        due("tokens", x.tokens(), length);
        for (int i = length - 1; i >= 0; i--) {
            due("token " + i + " of " + length, x.untoken(), i % 100);
        }
        due("nothing below the first", x.untoken(), NONE);
    }

    private static void newObject() {
        CHECK.about("Promise 1: the text is empty");
        due("tokens", new LittleCompiler().tokens(), 0);
        due("untoken", new LittleCompiler().untoken(), NONE);
        due("wrongAt", new LittleCompiler().wrongAt(), 0);
        due("fault", new LittleCompiler().fault(), WRONG);
        due("run", new LittleCompiler().run(), WRONG);
        due("plain", new LittleCompiler().plain(0), NONE);
        due("the first token is number 1", new LittleCompiler().token(171), 1);
        CHECK.about("Promise 1: all globals and cells are 0");
        LittleCompiler x = Check.with("begin end");
        for (int g = 0; g < 8; g++) {
            due("global " + g, x.global(g), 0);
        }
        for (int i = 0; i < 16; i++) {
            due("cellAfter " + i, x.cellAfter(i), 0);
        }
        LittleCompiler other = new LittleCompiler();
        other.set(0, 5);
        other.cell(0, 6);
        other.token(1);
        CHECK.about("Promise 1: nothing of another object");
        due("tokens beside another", new LittleCompiler().tokens(), 0);
        LittleCompiler late = Check.with("begin end");
        due("global beside another", late.global(0), 0);
        due("cell beside another", late.cellAfter(0), 0);
    }

    private static void whichNumbersAreTokens() {
        CHECK.about("Promise 2: t is no token answers BAD_ARG");
        for (int t : NO_TOKENS) {
            LittleCompiler x = ofLength(3);
            due("token " + t, x.token(t), BAD_ARG);
            holdsOnly(x, 3);
        }
        LittleCompiler y = ofLength(3);
        due("token -1", y.token(-1), BAD_ARG);
        holdsOnly(y, 3);
        CHECK.about("Terms: tokens are");
        for (int[] row : ROWS) {
            for (int t = row[0]; t <= row[1]; t++) {
                LittleCompiler x = ofLength(3);
                due("token " + t, x.token(t), 4);
                due("token " + t + " is kept", x.untoken(), t);
                holdsOnly(x, 3);
            }
        }
        for (int t = -200; t <= 400; t++) {
            boolean isToken = false;
            for (int[] row : ROWS) {
                isToken |= t >= row[0] && t <= row[1];
            }
            due("token " + t, new LittleCompiler().token(t), isToken ? 1 : BAD_ARG);
            due("four of " + t, new LittleCompiler().four(-1, t, -1, -1), isToken ? 1 : t == -1 ? 0 : BAD_ARG);
        }
    }

    private static void program(String before, int token, String behind, boolean isOne) {
        LittleCompiler x = Check.with(before);
        x.token(token);
        for (int t : Check.tokens(behind)) {
            x.token(t);
        }
        CHECK.holds(before + " " + token + " " + behind + (isOne ? " is" : " is not") + " a program",
            (x.wrongAt() == NONE) == isOne);
    }

    /** Each place takes all tokens of its sort and no other. */
    private static void whatSortEachTokenIs() {
        CHECK.about("Terms: tokens are numbers, names, m, procedure names and signs");
        for (int[] row : ROWS) {
            for (int t = row[0]; t <= row[1]; t++) {
                boolean isNumber = t <= 99;
                boolean isName = t >= 100 && t <= 107;
                boolean isProcedure = t >= 110 && t <= 113;
                boolean isRelation = t >= 140 && t <= 145;
                boolean isInfix = t >= 130 && t <= 134 || isRelation || t == 150 || t == 151;
                boolean isPrefix = t == 130 || t == 131 || t == 152;
                program("begin put", t, "end", isNumber || isName);
                program("begin", t, ":= 1 end", isName);
                program("begin", t, "[ 1 ] := 1 end", t == 108);
                program("begin put", t, "[ 1 ] end", t == 108);
                program("begin put", t, "( ) end", isProcedure);
                program("begin", t, "( ) end", isProcedure);
                program("proc", t, "( ) begin end begin end", isProcedure);
                program("proc p0 (", t, ") begin end begin end", isName);
                program("proc p0 ( ) var", t, "begin end begin end", isName);
                program("begin put 1", t, "2 end", isInfix);
                program("begin put 1 < 3", t, "2 end", isInfix && !isRelation);
                program("begin put", t, "2 end", isPrefix);
                program("begin put 1 *", t, "2 end", t == 152);
            }
        }
        CHECK.about("Terms: a number has itself as its value");
        for (int t = 0; t <= 99; t++) {
            due("value of " + t, Check.written(new int[] {171, 169, t, 163}).output(0), t);
        }
        CHECK.about("Promise 9: g for the names 100 to 107");
        for (int g = 0; g <= 7; g++) {
            LittleCompiler x = Check.written(new int[] {171, 169, 100 + g, 163});
            x.set(g, 1000 + g);
            due("name " + (100 + g), x.output(0), 1000 + g);
        }
    }

    private static void tokenWhenFull() {
        CHECK.about("Promise 2: FULL, the text has 150 tokens");
        for (int length = 0; length < 150; length++) {
            due("token behind " + length, ofLength(length).token(length % 100), length + 1);
        }
        LittleCompiler x = ofLength(149);
        due("the last that is taken", x.token(49), 150);
        due("the first that is not", x.token(50), FULL);
        due("nor the next", x.token(51), FULL);
        due("nor one of another sort", x.token(163), FULL);
        holdsOnly(x, 150);
        due("room again", x.token(1), 1);
    }

    private static void tokenTestsItsArgumentFirst() {
        CHECK.about("Promise 2: tested in this order");
        for (int t : NO_TOKENS) {
            LittleCompiler x = ofLength(150);
            due("token " + t + " when full", x.token(t), BAD_ARG);
        }
        LittleCompiler x = ofLength(150);
        due("token -1 when full", x.token(-1), BAD_ARG);
        holdsOnly(x, 150);
    }

    private static int pick(int choice, int bit, int token) {
        return (choice >> bit & 1) != 0 ? token : -1;
    }

    private static void fourLeavesOutMinusOne() {
        CHECK.about("Promise 3: those, in this order, that are not -1");
        for (int choice = 0; choice < 16; choice++) {
            LittleCompiler x = ofLength(2);
            int a = pick(choice, 0, 171);
            int b = pick(choice, 1, 0);
            int c = pick(choice, 2, 113);
            int d = pick(choice, 3, 173);
            due("four " + choice, x.four(a, b, c, d), 2 + Integer.bitCount(choice));
            for (int t : new int[] {d, c, b, a}) {
                if (t != -1) {
                    due("taken off " + choice, x.untoken(), t);
                }
            }
            holdsOnly(x, 2);
        }
    }

    private static void fourRefusesOneThatIsNoToken() {
        CHECK.about("Promise 3: one of them is neither -1 nor a token answers BAD_ARG");
        for (int t : NO_TOKENS) {
            for (int choice = 0; choice < 16; choice++) {
                for (int place = 0; place < 4; place++) {
                    int[] all = {pick(choice, 0, 1), pick(choice, 1, 2), pick(choice, 2, 3), pick(choice, 3, 4)};
                    all[place] = t;
                    LittleCompiler x = ofLength(1);
                    due("four with " + t + " at " + place, x.four(all[0], all[1], all[2], all[3]), BAD_ARG);
                    holdsOnly(x, 1);
                    LittleCompiler full = ofLength(150);
                    due("four with " + t + " at " + place + " when full", full.four(all[0], all[1], all[2], all[3]),
                        BAD_ARG);
                    due("tokens when full", full.tokens(), 150);
                }
            }
        }
    }

    private static void fourWhenFull() {
        CHECK.about("Promise 3: there would be more than 150 tokens answers FULL");
        for (int length = 144; length <= 150; length++) {
            for (int choice = 0; choice < 16; choice++) {
                int more = Integer.bitCount(choice);
                LittleCompiler x = ofLength(length);
                int got = x.four(pick(choice, 0, 160), pick(choice, 1, 161), pick(choice, 2, 162), pick(choice, 3, 163));
                due("four of " + more + " behind " + length, got, length + more > 150 ? FULL : length + more);
                if (length + more > 150) {
                    holdsOnly(x, length);
                } else {
                    due("tokens behind " + length, x.tokens(), length + more);
                }
            }
        }
    }

    private static void untokenOfAnEmptyText() {
        CHECK.about("Promise 4: NONE if there is none");
        LittleCompiler x = ofLength(1);
        due("the last there is", x.untoken(), 0);
        for (int time = 0; time < 3; time++) {
            due("untoken of nothing", x.untoken(), NONE);
            due("tokens", x.tokens(), 0);
        }
        due("the next token is number 1", x.token(171), 1);
        due("and the one behind it number 2", x.four(163, -1, -1, -1), 2);
        due("it is a program", x.wrongAt(), NONE);
        CHECK.about("Promise 4: otherwise that token");
        due("the number 0 is no refusal", Check.with("begin put 0").untoken(), 0);
    }

    private static void untokenOfAFullText() {
        CHECK.about("Promise 4: takes the last token off");
        LittleCompiler x = ofLength(150);
        due("full", x.token(1), FULL);
        due("untoken", x.untoken(), 49);
        due("tokens", x.tokens(), 149);
        due("room for one", x.four(1, 2, -1, -1), FULL);
        due("token", x.token(88), 150);
        due("full again", x.token(1), FULL);
        due("the new one", x.untoken(), 88);
        holdsOnly(x, 149);
    }

    private static void clearOfEachText() {
        CHECK.about("Promise 5: the text is empty from now on");
        for (int length : new int[] {0, 1, 4, 149, 150}) {
            LittleCompiler x = ofLength(length);
            x.clear();
            due("tokens", x.tokens(), 0);
            due("untoken", x.untoken(), NONE);
            due("wrongAt", x.wrongAt(), 0);
            due("run", x.run(), WRONG);
            due("plainSize", x.plainSize(), WRONG);
            due("plain", x.plain(0), NONE);
            due("token", x.token(171), 1);
            for (int i = 2; i <= 150; i++) {
                due("token behind clear", x.token(121), i);
            }
            due("full behind clear", x.token(121), FULL);
        }
        LittleCompiler asked = Check.with("begin put 5 end");
        due("a run before", asked.output(0), 5);
        due("a plain form before", asked.plainSize(), 4);
        asked.clear();
        due("wrongAt behind questions", asked.wrongAt(), 0);
        due("fault behind questions", asked.fault(), WRONG);
        due("run behind questions", asked.run(), WRONG);
        due("output behind questions", asked.output(0), 0);
        due("plainSize behind questions", asked.plainSize(), WRONG);
        CHECK.about("Promise 5: the text, and no more than the text");
        LittleCompiler x = Check.with("begin a := 9 ; m [ 0 ] := 9 end");
        x.set(0, 3);
        x.set(7, -3);
        x.cell(0, 4);
        x.cell(15, -4);
        due("a run before", x.global(0), 9);
        x.clear();
        x.four(171, 163, -1, -1);
        due("global 0 as set", x.global(0), 3);
        due("global 7 as set", x.global(7), -3);
        due("cell 0 as set", x.cellAfter(0), 4);
        due("cell 15 as set", x.cellAfter(15), -4);
    }

    private static void tokensFromNoneToFull() {
        CHECK.about("Promise 6: the number of tokens");
        LittleCompiler x = new LittleCompiler();
        due("tokens", x.tokens(), 0);
        for (int i = 1; i <= 150; i++) {
            x.token(i % 100);
            due("tokens", x.tokens(), i);
        }
        x.token(1);
        due("tokens when full", x.tokens(), 150);
        for (int i = 149; i >= 0; i--) {
            x.untoken();
            if (i % 10 == 0) {
                due("tokens", x.tokens(), i);
            }
        }
        x.untoken();
        due("tokens of nothing", x.tokens(), 0);
    }

    private static void calls512() {
        CHECK.about("What it is: an object is used for at most 512 calls");
        LittleCompiler x = new LittleCompiler();
        x.four(171, 169, 100, 163);
        for (int call = 2; call <= 510; call += 2) {
            due("set in call " + call, x.set(0, call), 0);
            due("output in call " + (call + 1), x.output(0), call);
        }
        due("call 512", x.run(), 0);
        LittleCompiler y = new LittleCompiler();
        for (int call = 1; call <= 150; call++) {
            due("token in call " + call, y.token(5), call);
        }
        for (int call = 151; call <= 510; call += 2) {
            due("untoken in call " + call, y.untoken(), call == 151 ? 5 : (call - 2) % 100);
            due("token in call " + (call + 1), y.token(call % 100), 150);
        }
        due("call 511", y.token(5), FULL);
        due("call 512", y.tokens(), 150);
        rewritten512Times();
    }

    /** What a text makes inside the object is to be gone when the text is changed. */
    private static void rewritten512Times() {
        LittleCompiler x = Check.written(Check.tokens("proc p0 ( a ) begin return a + 1 end begin put "
            + Check.repeated("p0 (", 40) + "1 " + Check.repeated(")", 40)));
        int calls = 34;
        for (int time = 0; calls + 4 <= 512; time++) {
            due("token, time " + time, x.token(163), 135);
            due("output, time " + time, x.output(0), 41);
            due("untoken, time " + time, x.untoken(), 163);
            due("fault, time " + time, x.fault(), WRONG);
            calls += 4;
        }
        LittleCompiler y = Check.written(Check.tokens("begin put " + Check.repeated("~ (", 40) + "1 "
            + Check.repeated(")", 40) + "end"));
        calls = 31;
        for (int time = 0; calls + 4 <= 512; time++) {
            due("plainSize, time " + time, y.plainSize(), 44);
            due("untoken, time " + time, y.untoken(), 163);
            due("wrongAt, time " + time, y.wrongAt(), 123);
            due("token, time " + time, y.token(163), 124);
            calls += 4;
        }
    }
}
