import java.util.ArrayList;
import java.util.List;
import java.util.Random;
import java.util.TreeSet;

/** Random texts, read and run in other ways too: by Earley's, by walking a tree, by trying all that can be left out. */
public final class ReferenceTests {
    private static final int LONGEST = 150;
    private static final int MOST_TRIED = 11;
    private static final Check CHECK = new Check("ReferenceTests");
    private static final Grammar GRAMMAR = new Grammar();
    private static final int[] ALL_TOKENS = allTokens();
    private static int programs;
    private static int runs;
    private static int plainForms;
    private static int plainAgain;
    private static final int[] ENDINGS = new int[5];

    public static void main(String[] args) {
        for (int seed = 0; seed < 12000; seed++) {
            compare(new Random(seed), seed);
        }
        // Texts that say little would make the tests say little.
        CHECK.holds("many programs: " + programs, programs > 6000);
        CHECK.holds("many runs: " + runs, runs > 4000);
        CHECK.holds("many plain forms: " + plainForms, plainForms > 3000);
        CHECK.holds("many plain forms of longer texts: " + plainAgain, plainAgain > 500);
        for (int how = 0; how < ENDINGS.length; how++) {
            CHECK.holds("many runs that end with " + how + ": " + ENDINGS[how], ENDINGS[how] > 30);
        }
        CHECK.finish();
    }

    private static int[] allTokens() {
        List<Integer> all = new ArrayList<>();
        LittleCompiler x = new LittleCompiler();
        for (int t = 0; t < 200; t++) {
            if (x.token(t) > 0) {
                x.clear();
                all.add(t);
            }
        }
        return array(all);
    }

    private static int[] array(List<Integer> list) {
        int[] array = new int[list.size()];
        for (int i = 0; i < array.length; i++) {
            array[i] = list.get(i);
        }
        return array;
    }

    private static void compare(Random random, int seed) {
        List<Integer> text = new Writer(random, seed % 3 == 0 ? 30 : 120).program();
        if (random.nextInt(3) == 0) {
            spoil(text, random);
        }
        int[] tokens = array(text.size() > LONGEST ? text.subList(0, LONGEST) : text);
        LittleCompiler x = Check.with(tokens);
        String words = "seed " + seed + ": " + Check.words(tokens);
        Tree tree = Tree.read(tokens);
        int wrongAt = GRAMMAR.wrongAt(tokens);
        CHECK.due(words + " wrongAt", x.wrongAt(), wrongAt);
        CHECK.holds(words + " both readers agree", (tree != null) == (wrongAt == -4));
        if (tree == null) {
            compareNoProgram(x, words);
            return;
        }
        programs++;
        TreeSet<Integer> faults = Walk.faults(tree);
        CHECK.due(words + " fault", x.fault(), faults.isEmpty() ? -4 : faults.first());
        if (faults.isEmpty()) {
            compareRuns(x, tree, random, words);
        } else {
            CHECK.due(words + " run", x.run(), -5);
        }
        comparePlain(x, tokens, tree, words);
    }

    private static void compareNoProgram(LittleCompiler x, String words) {
        CHECK.due(words + " fault", x.fault(), -5);
        CHECK.due(words + " run", x.run(), -5);
        CHECK.due(words + " plainSize", x.plainSize(), -5);
        CHECK.due(words + " plain", x.plain(0), -4);
    }

    private static void compareRuns(LittleCompiler x, Tree tree, Random random, String words) {
        int[] globals = new int[8];
        int[] cells = new int[16];
        for (int time = 0; time < 3; time++) {
            compareRun(x, new Walk(tree, globals, cells), words);
            for (int k = 0; k < 4; k++) {
                int g = random.nextInt(8);
                int i = random.nextInt(16);
                globals[g] = someInt(random);
                cells[i] = someInt(random);
                CHECK.due("set", x.set(g, globals[g]), 0);
                CHECK.due("cell", x.cell(i, cells[i]), 0);
            }
        }
    }

    private static int someInt(Random random) {
        int sort = random.nextInt(6);
        return sort == 0 ? random.nextInt() : sort == 1 ? Integer.MIN_VALUE + random.nextInt(3) : random.nextInt(9) - 3;
    }

    private static void compareRun(LittleCompiler x, Walk walk, String words) {
        runs++;
        ENDINGS[walk.ending]++;
        CHECK.due(words + " run", x.run(), walk.ending);
        CHECK.due(words + " outs", x.outs(), walk.put.size());
        CHECK.due(words + " turns", x.turns(), walk.turns);
        CHECK.due(words + " deepest", x.deepest(), walk.deepest);
        for (int k = 0; k < 21; k++) {
            CHECK.due(words + " output " + k, x.output(k), k < walk.put.size() ? walk.put.get(k) : 0);
        }
        for (int g = 0; g < 8; g++) {
            CHECK.due(words + " global " + g, x.global(g), walk.globals[g]);
        }
        for (int i = 0; i < 16; i++) {
            CHECK.due(words + " cellAfter " + i, x.cellAfter(i), walk.cells[i]);
        }
    }

    /** Where too much may be left out to try it all, the plain form itself is to have nothing left to leave out. */
    private static void comparePlain(LittleCompiler x, int[] tokens, Tree tree, String words) {
        String got = Check.plain(x);
        int[] gotTokens = Check.tokens(got);
        Tree gotTree = Tree.read(gotTokens);
        CHECK.holds(words + " plain means the same: " + got,
            gotTree != null && gotTree.meaning().equals(tree.meaning()));
        if (gotTree == null) {
            return;
        }
        boolean tried = compareShortest(tokens, tree, got, words);
        boolean triedAgain = compareShortest(gotTokens, gotTree, got, words + " plain again");
        plainForms += tried ? 1 : 0;
        plainAgain += !tried && triedAgain ? 1 : 0;
    }

    /** Tries every choice of what may be left out, if they are not too many; one form alone may be the shortest. */
    private static boolean compareShortest(int[] tokens, Tree tree, String got, String words) {
        List<int[]> spare = new ArrayList<>();
        collectSpare(tree, spare);
        for (int at = 0; at < tokens.length; at++) {
            if (tokens[at] == 121) {
                spare.add(new int[] {at});
            }
        }
        if (spare.size() > MOST_TRIED) {
            return false;
        }
        TreeSet<String> shortest = shortestForms(tokens, spare, tree.meaning());
        CHECK.holds(words + " plain is one of " + shortest + ", not " + got, shortest.contains(got));
        CHECK.due(words + " shortest forms", shortest.size(), 1);
        return true;
    }

    private static TreeSet<String> shortestForms(int[] tokens, List<int[]> spare, String meaning) {
        TreeSet<String> shortest = new TreeSet<>();
        int length = LONGEST + 1;
        for (int choice = 0; choice < 1 << spare.size(); choice++) {
            int[] left = without(tokens, spare, choice);
            if (left.length > length) {
                continue;
            }
            Tree leftTree = Tree.read(left);
            if (leftTree != null && leftTree.meaning().equals(meaning)) {
                if (left.length < length) {
                    shortest.clear();
                }
                length = left.length;
                shortest.add(Check.words(left));
            }
        }
        return shortest;
    }

    private static void collectSpare(Tree tree, List<int[]> spare) {
        if (tree.kind.equals("bracket")) {
            spare.add(new int[] {tree.at, tree.token});
        } else if (tree.kind.equals("plus")) {
            spare.add(new int[] {tree.at});
        }
        for (Tree part : tree.parts) {
            collectSpare(part, spare);
        }
    }

    private static int[] without(int[] tokens, List<int[]> spare, int choice) {
        boolean[] out = new boolean[tokens.length];
        for (int k = 0; k < spare.size(); k++) {
            if ((choice >> k & 1) != 0) {
                for (int at : spare.get(k)) {
                    out[at] = true;
                }
            }
        }
        List<Integer> left = new ArrayList<>();
        for (int at = 0; at < tokens.length; at++) {
            if (!out[at]) {
                left.add(tokens[at]);
            }
        }
        return array(left);
    }

    private static void spoil(List<Integer> text, Random random) {
        int times = 1 + random.nextInt(2);
        for (int k = 0; k < times && !text.isEmpty(); k++) {
            int at = random.nextInt(Math.min(text.size(), LONGEST));
            int token = random.nextBoolean() ? ALL_TOKENS[100 + random.nextInt(ALL_TOKENS.length - 100)]
                : text.get(random.nextInt(text.size()));
            switch (random.nextInt(4)) {
                case 0 -> text.remove(at);
                case 1 -> text.set(at, token);
                case 2 -> text.add(at, token);
                default -> text.subList(at, text.size()).clear();
            }
        }
    }
}
