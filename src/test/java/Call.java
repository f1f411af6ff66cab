import java.util.LinkedHashMap;
import java.util.Map;

/** One call of the face. */
interface Call {
    int on(LittleCompiler x);

    /** The calls that only ask, with arguments in and out of their ranges. */
    static Map<String, Call> questions() {
        Map<String, Call> all = new LinkedHashMap<>();
        all.put("tokens", LittleCompiler::tokens);
        all.put("wrongAt", LittleCompiler::wrongAt);
        all.put("fault", LittleCompiler::fault);
        all.put("run", LittleCompiler::run);
        all.put("outs", LittleCompiler::outs);
        all.put("turns", LittleCompiler::turns);
        all.put("deepest", LittleCompiler::deepest);
        all.put("plainSize", LittleCompiler::plainSize);
        for (int k : new int[] {Integer.MIN_VALUE, -1, 0, 7, 8, 15, 16, 19, 20, 150, Integer.MAX_VALUE}) {
            all.put("output " + k, x -> x.output(k));
            all.put("global " + k, x -> x.global(k));
            all.put("cellAfter " + k, x -> x.cellAfter(k));
            all.put("plain " + k, x -> x.plain(k));
        }
        return all;
    }
}
