import java.util.ArrayList;
import java.util.HashMap;
import java.util.HashSet;
import java.util.List;
import java.util.Map;
import java.util.Set;
import java.util.TreeSet;

/** Runs a program by walking its tree, sentence by sentence as the document says. */
final class Walk {
    final int[] globals;
    final int[] cells;
    final List<Integer> put = new ArrayList<>();
    int turns;
    int deepest;
    int ending;
    private int depth;
    private final Map<Integer, Tree> procs = new HashMap<>();

    private static final class Ended extends RuntimeException {
        private static final long serialVersionUID = 1L;
        private final int how;

        Ended(int how) {
            this.how = how;
        }
    }

    private static final class Returned extends RuntimeException {
        private static final long serialVersionUID = 1L;
        private final int value;

        Returned(int value) {
            this.value = value;
        }
    }

    /** The places of all faults. */
    static TreeSet<Integer> faults(Tree program) {
        TreeSet<Integer> found = new TreeSet<>();
        Map<Integer, Tree> first = new HashMap<>();
        for (Tree part : program.parts) {
            if (part.kind.equals("proc")) {
                if (first.putIfAbsent(part.token, part) != null) {
                    found.add(part.at);
                }
                Set<Integer> names = new HashSet<>();
                for (int list = 0; list < 2; list++) {
                    for (Tree name : part.parts.get(list).parts) {
                        if (!names.add(name.token)) {
                            found.add(name.at);
                        }
                    }
                }
            }
        }
        callFaults(program, first, found);
        return found;
    }

    private static void callFaults(Tree tree, Map<Integer, Tree> first, Set<Integer> found) {
        if (tree.kind.equals("call")) {
            Tree proc = first.get(tree.token);
            if (proc == null || proc.parts.get(0).parts.size() != tree.parts.size()) {
                found.add(tree.at);
            }
        }
        for (Tree part : tree.parts) {
            callFaults(part, first, found);
        }
    }

    Walk(Tree program, int[] globalsBefore, int[] cellsBefore) {
        globals = globalsBefore.clone();
        cells = cellsBefore.clone();
        for (Tree part : program.parts) {
            if (part.kind.equals("proc")) {
                procs.put(part.token, part);
            }
        }
        try {
            doAll(program.parts.get(program.parts.size() - 1), Map.of());
            ending = 0;
        } catch (Returned e) {
            ending = 0;
        } catch (Ended e) {
            ending = e.how;
        }
    }

    private void turn() {
        if (turns == 300) {
            throw new Ended(1);
        }
        turns++;
    }

    private void doAll(Tree statements, Map<Integer, int[]> own) {
        for (Tree statement : statements.parts) {
            doOne(statement, own);
        }
    }

    private void doOne(Tree s, Map<Integer, int[]> own) {
        switch (s.kind) {
            case "empty" -> {
            }
            case "set" -> {
                int value = value(s.parts.get(1), own);
                int name = s.parts.get(0).token;
                if (own.containsKey(name)) {
                    own.get(name)[0] = value;
                } else {
                    globals[name - 100] = value;
                }
            }
            case "setcell" -> {
                int index = value(s.parts.get(0), own);
                cells[index & 15] = value(s.parts.get(1), own);
            }
            case "do" -> value(s.parts.get(0), own);
            case "put" -> {
                int value = value(s.parts.get(0), own);
                if (put.size() == 20) {
                    throw new Ended(3);
                }
                put.add(value);
            }
            case "return" -> throw new Returned(value(s.parts.get(0), own));
            case "while" -> {
                while (value(s.parts.get(0), own) != 0) {
                    turn();
                    doAll(s.parts.get(1), own);
                }
            }
            case "repeat" -> {
                do {
                    turn();
                    doAll(s.parts.get(0), own);
                } while (value(s.parts.get(1), own) == 0);
            }
            case "if" -> choose(s, own);
            default -> throw new IllegalStateException(s.kind);
        }
    }

    private void choose(Tree choice, Map<Integer, int[]> own) {
        for (Tree way : choice.parts) {
            if (way.kind.equals("else")) {
                doAll(way.parts.get(0), own);
                return;
            }
            if (value(way.parts.get(0), own) != 0) {
                doAll(way.parts.get(1), own);
                return;
            }
        }
    }

    private int value(Tree e, Map<Integer, int[]> own) {
        return switch (e.kind) {
            case "number" -> e.token;
            case "name" -> own.containsKey(e.token) ? own.get(e.token)[0] : globals[e.token - 100];
            case "cell" -> cells[value(e.parts.get(0), own) & 15];
            case "bracket", "plus" -> value(e.parts.get(0), own);
            case "minus" -> 0 - value(e.parts.get(0), own);
            case "not" -> value(e.parts.get(0), own) == 0 ? 1 : 0;
            case "call" -> call(e, own);
            case "binary" -> binary(e, own);
            default -> throw new IllegalStateException(e.kind);
        };
    }

    private int binary(Tree e, Map<Integer, int[]> own) {
        int left = value(e.parts.get(0), own);
        if (e.token == 150 && left == 0) {
            return 0;
        }
        if (e.token == 151 && left != 0) {
            return 1;
        }
        int right = value(e.parts.get(1), own);
        if ((e.token == 133 || e.token == 134) && right == 0) {
            throw new Ended(4);
        }
        return switch (e.token) {
            case 130 -> left + right;
            case 131 -> left - right;
            case 132 -> left * right;
            case 133 -> left / right;
            case 134 -> left % right;
            case 140 -> left == right ? 1 : 0;
            case 141 -> left != right ? 1 : 0;
            case 142 -> left < right ? 1 : 0;
            case 143 -> left <= right ? 1 : 0;
            case 144 -> left > right ? 1 : 0;
            case 145 -> left >= right ? 1 : 0;
            default -> right != 0 ? 1 : 0;
        };
    }

    private int call(Tree call, Map<Integer, int[]> own) {
        int[] values = new int[call.parts.size()];
        for (int k = 0; k < values.length; k++) {
            values[k] = value(call.parts.get(k), own);
        }
        turn();
        if (depth == 20) {
            throw new Ended(2);
        }
        Tree proc = procs.get(call.token);
        Map<Integer, int[]> inside = new HashMap<>();
        for (int k = 0; k < values.length; k++) {
            inside.put(proc.parts.get(0).parts.get(k).token, new int[] {values[k]});
        }
        for (Tree name : proc.parts.get(1).parts) {
            inside.put(name.token, new int[] {0});
        }
        depth++;
        deepest = Math.max(deepest, depth);
        int value = 0;
        try {
            doAll(proc.parts.get(2), inside);
        } catch (Returned e) {
            value = e.value;
        }
        depth--;
        return value;
    }
}
