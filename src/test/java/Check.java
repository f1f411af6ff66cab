import java.util.HashMap;
import java.util.Map;

/** What the tests share: counting wrong answers, and texts written in words. */
final class Check {
    private static final Map<String, Integer> WORDS = new HashMap<>();

    static {
        String[] words = {
            "120 :=", "121 ;", "122 (", "123 )", "124 ,", "125 [", "126 ]", "130 +", "131 -", "132 *", "133 /",
            "134 %", "140 =", "141 #", "142 <", "143 <=", "144 >", "145 >=", "150 &", "151 or", "152 ~", "160 if",
            "161 then", "162 else", "163 end", "164 while", "165 do", "166 repeat", "167 until", "168 return",
            "169 put", "170 proc", "171 begin", "172 var", "173 elsif", "100 a", "101 b", "102 c", "103 d", "104 e",
            "105 f", "106 g", "107 h", "108 m", "110 p0", "111 p1", "112 p2", "113 p3"};
        for (String word : words) {
            WORDS.put(word.substring(4), Integer.parseInt(word.substring(0, 3)));
        }
    }

    private final String name;
    private String sentence = "";
    private int wrong;
    private int asked;

    Check(String name) {
        this.name = name;
    }

    /** The sentence of the document that the next answers are about. */
    void about(String words) {
        sentence = "[" + words + "] ";
    }

    void due(String call, int got, int want) {
        asked++;
        if (got != want) {
            wrong++;
            System.out.println(name + ": " + sentence + call + " answered " + got + ", due is " + want);
        }
    }

    void holds(String what, boolean does) {
        due(what, does ? 1 : 0, 1);
    }

    void finish() {
        System.out.println(name + ": " + asked + " answers, " + wrong + " wrong");
        if (wrong != 0) {
            System.exit(1);
        }
    }

    static int[] tokens(String words) {
        String trimmed = words.trim();
        if (trimmed.isEmpty()) {
            return new int[0];
        }
        String[] parts = trimmed.split("\\s+");
        int[] tokens = new int[parts.length];
        for (int i = 0; i < parts.length; i++) {
            Integer token = WORDS.get(parts[i]);
            tokens[i] = token != null ? token : Integer.parseInt(parts[i]);
        }
        return tokens;
    }

    static String words(int[] tokens) {
        StringBuilder all = new StringBuilder();
        for (int token : tokens) {
            String found = Integer.toString(token);
            for (Map.Entry<String, Integer> entry : WORDS.entrySet()) {
                if (entry.getValue() == token) {
                    found = entry.getKey();
                }
            }
            all.append(all.length() == 0 ? "" : " ").append(found);
        }
        return all.toString();
    }

    static LittleCompiler with(String words) {
        return with(tokens(words));
    }

    static LittleCompiler with(int[] tokens) {
        LittleCompiler compiler = new LittleCompiler();
        put(compiler, tokens);
        return compiler;
    }

    static void put(LittleCompiler compiler, int[] tokens) {
        compiler.clear();
        fits(tokens);
        for (int token : tokens) {
            compiler.token(token);
        }
    }

    /** A test's own text that is too long would be cut off without a word. */
    private static void fits(int[] tokens) {
        if (tokens.length > 150) {
            throw new IllegalArgumentException(tokens.length + " tokens: " + words(tokens));
        }
    }

    /** Takes few calls: an object is used for at most 512. */
    static LittleCompiler written(int[] tokens) {
        LittleCompiler compiler = new LittleCompiler();
        append(compiler, tokens);
        return compiler;
    }

    static void append(LittleCompiler compiler, int[] tokens) {
        fits(tokens);
        for (int i = 0; i < tokens.length; i += 4) {
            int[] group = {-1, -1, -1, -1};
            System.arraycopy(tokens, i, group, 0, Math.min(4, tokens.length - i));
            compiler.four(group[0], group[1], group[2], group[3]);
        }
    }

    static String plain(LittleCompiler compiler) {
        int size = compiler.plainSize();
        if (size < 0) {
            return Integer.toString(size);
        }
        int[] tokens = new int[size];
        for (int i = 0; i < size; i++) {
            tokens[i] = compiler.plain(i);
        }
        return words(tokens);
    }

    static String repeated(String words, int times) {
        return (words + " ").repeat(times);
    }
}
