import java.util.Arrays;
import java.util.HashSet;
import java.util.List;
import java.util.Random;
import java.util.Set;

/** Behind the beginnings of programs each token is tried: the document's grammar says which of them may follow. */
public final class FollowTests {
    private static final int NONE = -4;
    private static final int LAST_TOKEN = 173;
    private static final int BEGINNINGS = 2500;
    private static final Check CHECK = new Check("FollowTests");
    private static final Grammar GRAMMAR = new Grammar();
    private static final Set<Set<String>> FOLLOWING = new HashSet<>();
    private static int ends;

    public static void main(String[] args) {
        CHECK.about("Promise 7: the first token such that no program begins with the tokens up to it");
        for (int seed = 0; seed < BEGINNINGS; seed++) {
            tryAll(beginning(new Random(seed)));
        }
        // Beginnings of one sort alone would make the tests say little.
        CHECK.holds("many sorts of beginnings: " + FOLLOWING.size(), FOLLOWING.size() >= 30);
        CHECK.holds("many programs: " + ends, ends > 40);
        CHECK.finish();
    }

    private static int[] beginning(Random random) {
        List<Integer> program = new Writer(random, 10 + random.nextInt(40)).program();
        int size = random.nextInt(Math.min(program.size(), 100) + 1);
        int[] tokens = new int[size];
        for (int i = 0; i < size; i++) {
            tokens[i] = program.get(i);
        }
        return tokens;
    }

    private static void tryAll(int[] tokens) {
        Set<String> sorts = GRAMMAR.mayFollow(tokens);
        FOLLOWING.add(sorts);
        String words = Check.words(tokens);
        LittleCompiler x = Check.written(tokens);
        int end = lastOfProgram(tokens, sorts);
        ends += end == NONE ? 0 : 1;
        for (int token = 0; token <= LAST_TOKEN; token += token < 99 ? 33 : 1) {
            if (x.token(token) < 0) {
                continue;
            }
            int may = token == end ? NONE : tokens.length + 1;
            CHECK.due("wrongAt of " + words + " with " + token + " behind it", x.wrongAt(),
                sorts.contains(Grammar.sort(token)) ? may : tokens.length);
            x.untoken();
        }
    }

    /** Only an end can be a program's last token; NONE if it is not here. */
    private static int lastOfProgram(int[] tokens, Set<String> sorts) {
        if (!sorts.contains("end")) {
            return NONE;
        }
        int[] whole = Arrays.copyOf(tokens, tokens.length + 1);
        whole[tokens.length] = 163;
        return GRAMMAR.wrongAt(whole) == NONE ? 163 : NONE;
    }
}
