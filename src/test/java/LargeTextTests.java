/** What 150 tokens can be filled with: long runs, many operands that wait, deep nests, long lists, and each name. */
public final class LargeTextTests {
    private static final int NONE = -4;
    private static final int HALTED = 0;
    private static final int TIRED = 1;
    private static final int TOO_DEEP = 2;
    private static final int FULL_UP = 3;
    private static final int DIVIDED = 4;
    private static final String NAMES = "abcdefgh";
    private static final Check CHECK = new Check("LargeTextTests");

    public static void main(String[] args) {
        CHECK.about("Terms: in a proc those of its two lists are its own ones, others globals");
        eachNameAsItsOwn();
        CHECK.about("Promises 14 and 15: at the end of the run, whatever ends it");
        globalsAndCellsAtEachEnding();
        CHECK.about("Terms: a turn: if 300 turns were taken before");
        longestRuns();
        CHECK.about("Terms: if 20 calls are under way");
        operandsThatWait();
        CHECK.about("Promise 7: the first token such that no program begins with the tokens up to it");
        deepNestsOfTwoKinds();
        CHECK.about("Terms: if: the statements behind its then are done");
        longChoices();
        CHECK.about("Terms: whose number of expressions is not that of the names");
        longLists();
        CHECK.about("Promise 8: the number of the first token with a fault");
        faultsAtTheEnd();
        CHECK.about("Terms: the plain form");
        plainFormsOfLargeTexts();
        CHECK.finish();
    }

    private static LittleCompiler text(String words) {
        return Check.written(Check.tokens(words));
    }

    private static int count(String words) {
        return Check.tokens(words).length;
    }

    private static void eachNameAsItsOwn() {
        for (int n = 0; n < NAMES.length(); n++) {
            char name = NAMES.charAt(n);
            char other = NAMES.charAt((n + 3) % 8);
            String work = " := " + name + " + 1 ; " + other + " := " + other + " + 10 ; return " + name + " end begin put p0 (";
            LittleCompiler first = text("proc p0 ( " + name + " ) begin " + name + work + " 5 ) ; put " + name + " end");
            ownName(name + " in the brackets", first, n, 6);
            LittleCompiler local = text("proc p0 ( ) var " + name + " begin " + name + work + " ) ; put " + name + " end");
            ownName(name + " behind var", local, n, 1);
            LittleCompiler global = text("proc p0 ( ) var " + other + " begin " + name + work + " ) ; put " + name + " end");
            global.set(n, 40);
            CHECK.due(name + " as a global", global.output(0) * 100 + global.output(1), 4141);
        }
    }

    private static void ownName(String what, LittleCompiler x, int n, int value) {
        x.set(n, 70);
        CHECK.due(what, x.output(0), value);
        CHECK.due(what + ", the global outside", x.output(1), 70);
        CHECK.due(what + ", the global at the end", x.global(n), 70);
        CHECK.due(what + ", another global", x.global((n + 3) % 8), 10);
    }

    private static void globalsAndCellsAtEachEnding() {
        String before = "a := 3 ; m [ 4 ] := 5 ; put 6 ; ";
        String after = " ; a := 9 ; m [ 4 ] := 9 end";
        String proc = "proc p0 ( ) begin b := b + 1 ; m [ b ] := 8 ; p0 ( ) end ";
        leaves(HALTED, "begin " + before + "return 1" + after, 0, 0);
        leaves(TIRED, "begin " + before + "while 1 do b := b + 1 ; m [ b & 0 ] := 8 end" + after, 300, 8);
        leaves(TOO_DEEP, proc + "begin " + before + "p0 ( ) ; m [ 4 ] := 9 end", 20, 8);
        leaves(FULL_UP, "begin " + before + "repeat b := b + 1 ; m [ 0 ] := 8 ; put b until 0" + after, 20, 8);
        leaves(DIVIDED, "begin " + before + "b := 7 ; m [ 0 ] := 8 ; b := 1 / c" + after, 7, 8);
    }

    private static void leaves(int how, String words, int b, int cell) {
        LittleCompiler x = text(words);
        x.set(0, 1);
        x.cell(4, 1);
        x.cell(15, 2);
        CHECK.due("run of " + words, x.run(), how);
        CHECK.due("global 0 of " + words, x.global(0), 3);
        CHECK.due("global 1 of " + words, x.global(1), b);
        CHECK.due("cell 4 of " + words, x.cellAfter(4), how == TOO_DEEP ? 8 : 5);
        CHECK.due("cell 0 of " + words, x.cellAfter(0), cell);
        CHECK.due("cell 15 of " + words, x.cellAfter(15), how == TOO_DEEP ? 8 : 2);
        CHECK.due("output 0 of " + words, x.output(0), 6);
    }

    /** The run is compared with a walk over the program's tree. */
    private static void walked(String what, String words) {
        int[] tokens = Check.tokens(words);
        LittleCompiler x = Check.written(tokens);
        Walk walk = new Walk(Tree.read(tokens), new int[8], new int[16]);
        CHECK.due("run of " + what, x.run(), walk.ending);
        CHECK.due("turns of " + what, x.turns(), walk.turns);
        CHECK.due("deepest of " + what, x.deepest(), walk.deepest);
        CHECK.due("outs of " + what, x.outs(), walk.put.size());
        for (int k = 0; k < walk.put.size(); k++) {
            CHECK.due("output " + k + " of " + what, x.output(k), walk.put.get(k));
        }
        for (int g = 0; g < 8; g++) {
            CHECK.due("global " + g + " of " + what, x.global(g), walk.globals[g]);
        }
    }

    private static void longestRuns() {
        String ands = "b := b + ( 1 " + Check.repeated("& 1", 60) + ")";
        for (int most = 298; most <= 301; most++) {
            String test = "a < 99 * 3 + " + (most - 297) + " ";
            String body = "a := a + 1 ; " + ands;
            walked(most + " times while", "begin while " + test + "do " + body + " end end");
            walked(most + " times repeat", "begin repeat " + body + " until ~ ( " + test + ") end");
        }
        walked("300 calls", "proc p0 ( ) begin " + ands + " end begin p0 ( ) ; while 1 do p0 ( ) end end");
        walked("many tests", "begin repeat " + Check.repeated("while a do end ; if a then end ;", 12)
            + "b := b + 1 until b > 99 * 3 end");
    }

    private static void operandsThatWait() {
        for (int depth = 18; depth <= 21; depth++) {
            String head = "proc p0 ( ) begin if a < " + (depth - 1) + " then a := a + 1 ; return ";
            walked("1 + 2 *, " + depth + " deep", head + Check.repeated("1 + 2 * (", 18) + "3 - p0 ( ) "
                + Check.repeated(")", 18) + "end ; return 1 end begin put 7 - p0 ( ) end");
            walked("= + *, " + depth + " deep", head + Check.repeated("1 = 2 + 3 * (", 14) + "3 - p0 ( ) "
                + Check.repeated(")", 14) + "end ; return 1 end begin put 7 - p0 ( ) end");
            walked("cells, " + depth + " deep", head + Check.repeated("m [ 3 -", 22) + "p0 ( ) "
                + Check.repeated("]", 22) + "end ; return 1 end begin m [ 1 ] := 2 ; put 7 - p0 ( ) end");
        }
        String five = "p0 ( 1 , 2 , 3 , 4 ,";
        walked("expressions of calls", "proc p0 ( a , b , c , d , e ) begin f := f + 1 ; if f < 20 then return a - b * c -"
            + " d * e - " + Check.repeated(five, 5) + "5 " + Check.repeated(")", 5) + "end ; return 3 end begin put "
            + five + " 6 ) end");
    }

    private static void wrongAt(String before, String wrong) {
        if (count(before + wrong) > 150) {
            return;
        }
        LittleCompiler x = text(before + wrong);
        CHECK.due("wrongAt of " + before + "| " + wrong, x.wrongAt(), count(before));
        LittleCompiler open = text(before);
        CHECK.due("wrongAt of " + before, open.wrongAt(), count(before));
    }

    private static void deepNestsOfTwoKinds() {
        for (int n = 0; n <= 145; n++) {
            String brackets = "begin put " + Check.repeated("(", n);
            wrongAt(brackets + "m [ 1 ", ")");
            wrongAt(brackets + "p0 ( 1 , 2 ", "]");
            wrongAt(brackets + "1 = 2 ", "= 3");
            wrongAt(brackets + "p0 ( 1 ) ", n == 0 ? ")" : "]");
            wrongAt("begin put " + Check.repeated("~", n) + "( 1 ", "end");
            wrongAt("begin put " + Check.repeated("~", n) + "m [ 1 = 1 ", "= 1");
            String repeats = "begin " + Check.repeated("repeat", n);
            wrongAt(repeats + "while 1 do ", "until");
            wrongAt(repeats + "if 1 then ", "until");
            wrongAt(repeats + "if 1 then else ", "elsif");
            wrongAt(repeats + "while 1 do end ", n == 0 ? "until" : "end");
            wrongAt(repeats + "put ( 1 ", "until");
        }
        for (int n = 0; n <= 72; n++) {
            wrongAt("begin " + Check.repeated("while 1 do", n) + "repeat ", "end");
            wrongAt("begin " + Check.repeated("if 1 then", n) + "while 0 do ", "else");
            wrongAt("begin put " + Check.repeated("m [", n) + "( 1 ", "]");
            wrongAt("begin put " + Check.repeated("p0 (", n) + "m [ 1 ", ",");
        }
    }

    private static void longChoices() {
        for (int parts = 1; parts <= 45; parts++) {
            LittleCompiler first = text("begin if 1 then " + Check.repeated("elsif 1 then", parts - 1) + "end ; put 5 end");
            CHECK.due("the first of " + parts, first.output(0), 5);
            for (int chosen = 0; chosen < parts; chosen += 1 + parts / 9) {
                String words = "begin if " + Check.repeated("0 then elsif", chosen) + "1 then a := a + 1 "
                    + Check.repeated("elsif 1 then", Math.min(parts - chosen, 43 - chosen)) + "else put 6 end ; put 5 end";
                LittleCompiler x = text(words);
                CHECK.due(words, x.outs() * 100 + x.output(0) * 10 + x.global(0), 151);
            }
        }
    }

    private static String list(String words, int times) {
        return times == 0 ? "" : words + " " + Check.repeated(", " + words, times - 1);
    }

    private static void longLists() {
        for (int given = 9; given <= 66; given++) {
            for (int names = 0; names <= 2; names++) {
                String proc = "proc p0 ( " + (names == 2 ? "a , b " : list("a", names)) + ") begin end ";
                if (count(proc) + given * 2 + 5 <= 150) {
                    LittleCompiler x = text(proc + "begin p0 ( " + list("1", given) + ") end");
                    CHECK.due(given + " expressions for " + names + " names", x.fault(), count(proc) + 1);
                }
            }
        }
        for (int p = 0; p <= 3; p++) {
            for (int names = 2; names <= 33; names++) {
                namesToldTwice("p" + p, "p" + (p + 1) % 4, names);
            }
        }
    }

    private static void namesToldTwice(String called, String caller, int names) {
        for (int given = names - 1; given <= names + 1 && given <= 33; given++) {
            String call = "proc " + caller + " ( ) begin " + called + " ( " + list("1", given) + ") end ";
            LittleCompiler x = text(call + "proc " + called + " ( " + list("a", names) + ") begin end begin end");
            int twice = count(call) + 5;
            CHECK.due(given + " expressions for " + names + " names of " + called, x.fault(), given == names ? twice : 5);
        }
    }

    private static void faultsAtTheEnd() {
        for (int spare = 0; spare <= 145; spare++) {
            String before = "begin " + Check.repeated(";", spare);
            LittleCompiler statement = text(before + "p3 ( ) end");
            CHECK.due("p3 behind " + spare, statement.fault(), spare + 1);
            CHECK.due("the plain form behind " + spare, statement.plainSize(), 5);
        }
        for (int spare = 0; spare <= 139; spare++) {
            LittleCompiler known = text("proc p3 ( ) begin end begin " + Check.repeated(";", spare) + "p3 ( ) end");
            CHECK.due("p3 that is known behind " + spare, known.fault(), NONE);
        }
    }

    private static void plain(String words, String want) {
        LittleCompiler x = text(words);
        CHECK.due("plainSize of " + words, x.plainSize(), count(want));
        String got = Check.plain(x);
        CHECK.holds("plain form of " + words + " is " + want + " and not " + got, got.equals(want.trim()));
    }

    private static void plainFormsOfLargeTexts() {
        for (int n = 1; n <= 17; n++) {
            String open = Check.repeated("1 = 2 + 3 * (", n);
            String close = Check.repeated(")", n);
            plain("begin put ( " + open + "( 4 ) - 5 " + close + ") end", "begin put " + open + "4 - 5 " + close + "end");
        }
        for (int n = 1; n <= 34; n++) {
            String kept = Check.repeated("1 - (", n) + "2 - 3 " + Check.repeated(")", n);
            plain("begin put ( " + kept + ") end", "begin put " + kept + "end");
            plain("begin put " + Check.repeated("(", n) + "1" + Check.repeated(" - 2 )", n) + "end",
                "begin put 1 " + Check.repeated("- 2", n) + "end");
        }
        for (int n = 1; n <= 28; n++) {
            plain("begin put ( " + Check.repeated("1 - ( +", n) + "2 " + Check.repeated(")", n) + ") end",
                "begin put " + Check.repeated("1 - (", n - 1) + "1 - 2 " + Check.repeated(")", n - 1) + "end");
        }
    }
}
