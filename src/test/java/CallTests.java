import java.util.ArrayList;
import java.util.List;
import java.util.Random;

/** Runs of 512 random calls: none throws, and each answers what a fresh object in the same state answers. */
public final class CallTests {
    private static final int CALLS = 512;
    private static final int RUNS = 1000;
    private static final Check CHECK = new Check("CallTests");

    private final Random random;
    private final LittleCompiler x = new LittleCompiler();
    private final List<Integer> text = new ArrayList<>();
    private final int[] globals = new int[8];
    private final int[] cells = new int[16];
    private int calls;

    private CallTests(long seed) {
        random = new Random(seed);
    }

    public static void main(String[] args) {
        for (int seed = 0; seed < RUNS; seed++) {
            CallTests test = new CallTests(seed);
            while (test.calls < CALLS) {
                test.doesNotThrow(seed);
            }
        }
        CHECK.finish();
    }

    private void doesNotThrow(int seed) {
        try {
            call();
        } catch (RuntimeException | Error e) {
            CHECK.holds("seed " + seed + " call " + calls + " threw " + e, false);
        }
    }

    private int anyInt() {
        return switch (random.nextInt(5)) {
            case 0 -> random.nextInt();
            case 1 -> Integer.MIN_VALUE + random.nextInt(2);
            case 2 -> Integer.MAX_VALUE - random.nextInt(2);
            default -> random.nextInt(24) - 4;
        };
    }

    private int anyToken() {
        return random.nextInt(12) == 0 ? anyInt() : random.nextInt(176) - 1;
    }

    private void call() {
        calls++;
        int sort = random.nextInt(30);
        if (sort < 3) {
            int t = anyToken();
            CHECK.due("token " + t, x.token(t), token(t));
        } else if (sort < 5) {
            int[] t = {anyToken(), anyToken(), anyToken(), random.nextInt(3) == 0 ? -1 : anyToken()};
            CHECK.due("four", x.four(t[0], t[1], t[2], t[3]), four(t));
        } else if (sort < 7) {
            CHECK.due("untoken", x.untoken(), text.isEmpty() ? -4 : text.remove(text.size() - 1));
        } else if (sort < 8) {
            rewrite();
        } else if (sort < 9) {
            int g = anyInt();
            int value = anyInt();
            boolean fine = g >= 0 && g < 8;
            CHECK.due("set", x.set(g, value), fine ? 0 : -1);
            if (fine) {
                globals[g] = value;
            }
        } else if (sort < 10) {
            int i = anyInt();
            int value = anyInt();
            boolean fine = i >= 0 && i < 16;
            CHECK.due("cell", x.cell(i, value), fine ? 0 : -1);
            if (fine) {
                cells[i] = value;
            }
        } else if (sort < 11) {
            x.prepare(anyInt(), anyInt());
        } else {
            ask(random.nextInt(12), anyInt());
        }
    }

    private static boolean isToken(int t) {
        return t >= 0 && t <= 108 || t >= 110 && t <= 113 || t >= 120 && t <= 126 || t >= 130 && t <= 134
            || t >= 140 && t <= 145 || t >= 150 && t <= 152 || t >= 160 && t <= 173;
    }

    private int token(int t) {
        if (!isToken(t)) {
            return -1;
        }
        if (text.size() == 150) {
            return -2;
        }
        text.add(t);
        return text.size();
    }

    private int four(int[] tokens) {
        List<Integer> more = new ArrayList<>();
        for (int t : tokens) {
            if (t != -1 && !isToken(t)) {
                return -1;
            }
            if (t != -1) {
                more.add(t);
            }
        }
        if (text.size() + more.size() > 150) {
            return -2;
        }
        text.addAll(more);
        return text.size();
    }

    private void rewrite() {
        x.clear();
        text.clear();
        List<Integer> program = new Writer(random, 20 + random.nextInt(110)).program();
        for (int i = 0; i < program.size() && calls < CALLS; i += 4) {
            int[] t = {-1, -1, -1, -1};
            for (int k = 0; k < 4 && i + k < program.size(); k++) {
                t[k] = program.get(i + k);
            }
            calls++;
            CHECK.due("four", x.four(t[0], t[1], t[2], t[3]), four(t));
        }
    }

    private void ask(int question, int argument) {
        LittleCompiler fresh = new LittleCompiler();
        for (int i = 0; i < 16; i++) {
            fresh.cell(i, cells[i]);
        }
        for (int g = 0; g < 8; g++) {
            fresh.set(g, globals[g]);
        }
        for (int t : text) {
            fresh.token(t);
        }
        CHECK.due("question " + question + " of " + argument + " about " + text, answer(x, question, argument),
            answer(fresh, question, argument));
    }

    private static int answer(LittleCompiler y, int question, int argument) {
        return switch (question) {
            case 0 -> y.tokens();
            case 1 -> y.wrongAt();
            case 2 -> y.fault();
            case 3 -> y.run();
            case 4 -> y.outs();
            case 5 -> y.output(argument);
            case 6 -> y.global(argument);
            case 7 -> y.cellAfter(argument);
            case 8 -> y.turns();
            case 9 -> y.deepest();
            case 10 -> y.plainSize();
            default -> y.plain(argument);
        };
    }
}
