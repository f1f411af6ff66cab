import java.util.ArrayList;
import java.util.LinkedHashMap;
import java.util.List;
import java.util.Map;

/** A refused call answers its code and changes nothing; what only asks changes nothing; no call throws. */
public final class BoundaryRefusalTests {
    private static final int BAD_ARG = -1;
    private static final int FULL = -2;
    private static final int NONE = -4;
    private static final int LEAST = Integer.MIN_VALUE;
    private static final int MOST = Integer.MAX_VALUE;
    private static final int[] NO_TOKENS = {LEAST, -2, 109, 114, 119, 127, 129, 135, 139, 146, 149, 153, 159, 174, MOST};
    private static final int[] ANY = {LEAST, LEAST + 1, -150, -17, -16, -8, -5, -4, -2, -1, 0, 1, 3, 4, 7, 8, 9, 15, 16, 19, 20,
        21, 99, 100, 107, 108, 109, 110, 113, 114, 120, 149, 150, 151, 163, 171, 173, 174, 300, MOST - 1, MOST};

    private static final Check CHECK = new Check("BoundaryRefusalTests");

    /** Texts in which runs end in each way, and texts that are wrong in each way. */
    private static final Map<String, String> TEXTS = new LinkedHashMap<>();

    static {
        TEXTS.put("empty", "");
        TEXTS.put("one token", "begin");
        TEXTS.put("halted", "begin ; put ( + a ) ; h := h + 1 ; m [ 15 ] := m [ 0 ] ; end");
        TEXTS.put("tired", "begin while 1 do a := a + 1 end end");
        TEXTS.put("too deep", "proc p0 ( a ) begin b := b + 1 ; p0 ( a ) end begin p0 ( 1 ) end");
        TEXTS.put("full up", "begin repeat put a ; a := a + 1 until 0 end");
        TEXTS.put("divided", "begin put 1 ; m [ 3 ] := 5 ; a := 1 % 0 end");
        TEXTS.put("faulty", "begin put ( a ) ; p0 ( 1 ) end");
        TEXTS.put("faulty proc", "proc p0 ( a , a ) begin end proc p1 ( ) begin end begin end");
        TEXTS.put("calls", "proc p1 ( b ) begin return b * 2 end proc p0 ( ) var a begin return a end begin put p1 ( 4 ) end");
        TEXTS.put("open", "begin if a then put ( 1");
        TEXTS.put("open behind brackets", "begin put ( 1 )");
        TEXTS.put("wrong", "begin put 1 2 end");
        TEXTS.put("149 tokens", "begin put 1 " + Check.repeated("+ 1", 73));
        TEXTS.put("150 tokens", "begin put 1 " + Check.repeated("+ 1", 73) + "end");
        TEXTS.put("150 wrong tokens", "end " + Check.repeated("( a :=", 49) + "; ;");
    }

    public static void main(String[] args) {
        refusedTokens();
        refusedWhenFull();
        refusedUntoken();
        refusedSet();
        refusedPrepare();
        prepareCannotBeSeen();
        whatOnlyAsks();
        nothingIsLeftOfAnotherText();
        noCallThrows();
        CHECK.finish();
    }

    private static LittleCompiler made(String name) {
        LittleCompiler x = Check.written(Check.tokens(TEXTS.get(name)));
        x.set(0, 7);
        x.set(7, LEAST);
        x.cell(0, -9);
        x.cell(15, MOST);
        return x;
    }

    /** A twin that the call is not done on answers the same, also if a run was asked for before. */
    private static void changesNothing(String text, String what, Call call) {
        Everything due = new Everything(made(text));
        LittleCompiler x = made(text);
        call.on(x);
        String difference = new Everything(x).differenceFrom(due);
        CHECK.holds(what + " changed in " + text + ": " + difference, difference.isEmpty());
        LittleCompiler asked = made(text);
        asked.run();
        asked.plainSize();
        call.on(asked);
        difference = new Everything(asked).differenceFrom(due);
        CHECK.holds(what + " behind a run changed in " + text + ": " + difference, difference.isEmpty());
    }

    private static void refused(String text, String what, int code, Call call) {
        CHECK.due(what + " of " + text, call.on(made(text)), code);
        changesNothing(text, what, call);
    }

    private static void refusedTokens() {
        for (String text : TEXTS.keySet()) {
            CHECK.about("Promise 2: t is no token answers BAD_ARG and changes nothing");
            refused(text, "token -1", BAD_ARG, x -> x.token(-1));
            for (int t : NO_TOKENS) {
                refused(text, "token " + t, BAD_ARG, x -> x.token(t));
            }
            CHECK.about("Promise 3: neither -1 nor a token answers BAD_ARG and changes nothing");
            for (int t : NO_TOKENS) {
                refused(text, "four first " + t, BAD_ARG, x -> x.four(t, 121, 121, 163));
                refused(text, "four second " + t, BAD_ARG, x -> x.four(121, t, 121, 163));
                refused(text, "four third " + t, BAD_ARG, x -> x.four(121, 121, t, 163));
                refused(text, "four fourth " + t, BAD_ARG, x -> x.four(121, 121, 163, t));
                refused(text, "four alone " + t, BAD_ARG, x -> x.four(-1, -1, -1, t));
            }
            CHECK.about("Promise 3: those that are not -1");
            changesNothing(text, "four of none", x -> x.four(-1, -1, -1, -1));
            CHECK.due("four of none of " + text, made(text).four(-1, -1, -1, -1), made(text).tokens());
        }
    }

    private static void refusedWhenFull() {
        CHECK.about("Promise 2: FULL, and nothing changes");
        for (String text : new String[] {"150 tokens", "150 wrong tokens"}) {
            for (int t : new int[] {0, 99, 100, 108, 113, 121, 163, 173}) {
                refused(text, "token " + t, FULL, x -> x.token(t));
                refused(text, "four with " + t, FULL, x -> x.four(-1, t, -1, -1));
            }
        }
        CHECK.about("Promise 3: there would be more than 150 tokens answers FULL, and nothing changes");
        refused("149 tokens", "four of two", FULL, x -> x.four(163, -1, 121, -1));
        refused("149 tokens", "four of three", FULL, x -> x.four(163, 121, 121, -1));
        refused("149 tokens", "four of four", FULL, x -> x.four(163, 1, 2, 3));
        CHECK.due("four of one behind 149", made("149 tokens").four(-1, -1, 163, -1), 150);
        CHECK.due("token behind 149", made("149 tokens").token(163), 150);
    }

    private static void refusedUntoken() {
        CHECK.about("Promise 4: NONE if there is none, and nothing changes");
        refused("empty", "untoken", NONE, LittleCompiler::untoken);
    }

    private static void refusedSet() {
        for (String text : TEXTS.keySet()) {
            CHECK.about("Promise 9: BAD_ARG if g is not 0 to 7, and nothing changes");
            for (int g : new int[] {LEAST, -1, 8, 15, 16, 100, MOST}) {
                refused(text, "set " + g, BAD_ARG, x -> x.set(g, 1234));
            }
            CHECK.about("Promise 10: BAD_ARG if i is not 0 to 15, and nothing changes");
            for (int i : new int[] {LEAST, -16, -1, 16, 17, 32, MOST}) {
                refused(text, "cell " + i, BAD_ARG, x -> x.cell(i, 1234));
            }
        }
    }

    private static void refusedPrepare() {
        CHECK.about("Promise 20: BAD_ARG if n is not 4 to 8 or care not 0 to 2");
        for (String text : TEXTS.keySet()) {
            for (int n : new int[] {LEAST, -4, 0, 3, 9, MOST}) {
                for (int care : new int[] {LEAST, -1, 0, 1, 2, 3, MOST}) {
                    refused(text, "prepare " + n + " " + care, BAD_ARG, x -> x.prepare(n, care));
                }
            }
            for (int n = 4; n <= 8; n++) {
                for (int care : new int[] {LEAST, -1, 3, MOST}) {
                    int registers = n;
                    refused(text, "prepare " + n + " " + care, BAD_ARG, x -> x.prepare(registers, care));
                }
            }
        }
    }

    private static void prepareCannotBeSeen() {
        CHECK.about("Promise 20: otherwise 0; it can't be seen by any other call");
        for (String text : TEXTS.keySet()) {
            for (int n = 4; n <= 8; n++) {
                for (int care = 0; care <= 2; care++) {
                    int registers = n;
                    int much = care;
                    CHECK.due("prepare " + n + " " + care + " of " + text, made(text).prepare(n, care), 0);
                    changesNothing(text, "prepare " + n + " " + care, x -> x.prepare(registers, much));
                }
            }
        }
    }

    private static void whatOnlyAsks() {
        CHECK.about("Promises 6 to 8 and 11 to 19: what only asks changes nothing");
        for (String text : TEXTS.keySet()) {
            for (Map.Entry<String, Call> question : Call.questions().entrySet()) {
                changesNothing(text, question.getKey(), question.getValue());
            }
        }
    }

    /** A text answers the same on an object that had another one and was asked about it. */
    private static void nothingIsLeftOfAnotherText() {
        CHECK.about("Promise 5: the text is empty from now on");
        for (String before : TEXTS.keySet()) {
            for (String text : TEXTS.keySet()) {
                LittleCompiler x = made(before);
                x.run();
                x.plainSize();
                x.fault();
                x.clear();
                Check.append(x, Check.tokens(TEXTS.get(text)));
                String difference = new Everything(x).differenceFrom(new Everything(made(text)));
                CHECK.holds(text + " behind " + before + ": " + difference, difference.isEmpty());
            }
        }
    }

    private static List<Call> callsWith(int a, int b) {
        List<Call> all = new ArrayList<>();
        all.add(x -> x.token(a));
        all.add(x -> x.four(a, b, -1, a));
        all.add(x -> x.four(-1, a, b, b));
        all.add(x -> x.set(a, b));
        all.add(x -> x.cell(a, b));
        all.add(x -> x.prepare(a, b));
        all.add(x -> x.output(a));
        all.add(x -> x.global(a));
        all.add(x -> x.cellAfter(a));
        all.add(x -> x.plain(a));
        return all;
    }

    private static void noCallThrows() {
        CHECK.about("Terms: no call ever throws");
        for (String text : TEXTS.keySet()) {
            for (int a : ANY) {
                for (int b : ANY) {
                    LittleCompiler x = made(text);
                    for (Call call : callsWith(a, b)) {
                        doesNotThrow(text + " with " + a + " and " + b, x, call);
                    }
                    for (Call call : Call.questions().values()) {
                        doesNotThrow(text + " behind " + a + " and " + b, x, call);
                    }
                    doesNotThrow(text + " untoken", x, LittleCompiler::untoken);
                }
            }
        }
    }

    private static void doesNotThrow(String what, LittleCompiler x, Call call) {
        try {
            call.on(x);
        } catch (RuntimeException | Error e) {
            CHECK.holds(what + " threw " + e, false);
        }
    }
}
