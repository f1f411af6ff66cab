import java.util.ArrayList;
import java.util.List;

/** A program as a tree, read by recursive descent. */
final class Tree {
    /** What kind of thing it is, the place of its token, and its parts. */
    final String kind;
    final int token;
    final int at;
    final List<Tree> parts = new ArrayList<>();

    Tree(String kind, int token, int at, Tree... parts) {
        this.kind = kind;
        this.token = token;
        this.at = at;
        this.parts.addAll(List.of(parts));
    }

    /** The tree without what the plain form may leave out: two texts with the same one mean the same. */
    String meaning() {
        if (kind.equals("bracket") || kind.equals("plus")) {
            return parts.get(0).meaning();
        }
        StringBuilder all = new StringBuilder(kind).append(' ').append(token).append('{');
        for (Tree part : parts) {
            if (!part.kind.equals("empty")) {
                all.append(part.meaning()).append(' ');
            }
        }
        return all.append('}').toString();
    }

    static final class NoProgram extends RuntimeException {
        private static final long serialVersionUID = 1L;
    }

    /** Null if the tokens are no program. */
    static Tree read(int[] tokens) {
        Reader reader = new Reader(tokens);
        try {
            Tree program = reader.program();
            return reader.at == tokens.length ? program : null;
        } catch (NoProgram e) {
            return null;
        }
    }

    private static final class Reader {
        private final int[] tokens;
        private int at;

        Reader(int[] tokens) {
            this.tokens = tokens;
        }

        private int look() {
            return at < tokens.length ? tokens[at] : -1;
        }

        private boolean take(int token) {
            if (look() != token) {
                return false;
            }
            at++;
            return true;
        }

        private void must(int token) {
            if (!take(token)) {
                throw new NoProgram();
            }
        }

        private boolean between(int least, int most) {
            return look() >= least && look() <= most;
        }

        private Tree leaf(String kind, int least, int most) {
            if (!between(least, most)) {
                throw new NoProgram();
            }
            at++;
            return new Tree(kind, tokens[at - 1], at - 1);
        }

        Tree program() {
            Tree program = new Tree("program", 0, 0);
            while (take(170)) {
                Tree proc = leaf("proc", 110, 113);
                Tree names = new Tree("names", 0, at);
                Tree vars = new Tree("vars", 0, at);
                must(122);
                if (!take(123)) {
                    nameList(names);
                    must(123);
                }
                if (take(172)) {
                    nameList(vars);
                }
                must(171);
                proc.parts.addAll(List.of(names, vars, statements()));
                must(163);
                program.parts.add(proc);
            }
            must(171);
            program.parts.add(statements());
            must(163);
            return program;
        }

        private void nameList(Tree into) {
            do {
                into.parts.add(leaf("name", 100, 107));
            } while (take(124));
        }

        private Tree statements() {
            Tree all = new Tree("statements", 0, at);
            do {
                all.parts.add(statement());
            } while (take(121));
            return all;
        }

        private Tree statement() {
            int from = at;
            if (between(100, 107)) {
                Tree name = leaf("name", 100, 107);
                must(120);
                return new Tree("set", 0, from, name, expression());
            }
            if (take(108)) {
                must(125);
                Tree index = expression();
                must(126);
                must(120);
                return new Tree("setcell", 0, from, index, expression());
            }
            if (between(110, 113)) {
                return new Tree("do", 0, from, call());
            }
            if (take(169)) {
                return new Tree("put", 0, from, expression());
            }
            if (take(168)) {
                return new Tree("return", 0, from, expression());
            }
            if (take(164)) {
                Tree test = expression();
                must(165);
                Tree loop = new Tree("while", 0, from, test, statements());
                must(163);
                return loop;
            }
            if (take(166)) {
                Tree body = statements();
                must(167);
                return new Tree("repeat", 0, from, body, expression());
            }
            return take(160) ? choice(from) : new Tree("empty", 0, from);
        }

        private Tree choice(int from) {
            Tree choice = new Tree("if", 0, from);
            do {
                Tree test = expression();
                must(161);
                choice.parts.add(new Tree("then", 0, from, test, statements()));
            } while (take(173));
            if (take(162)) {
                choice.parts.add(new Tree("else", 0, from, statements()));
            }
            must(163);
            return choice;
        }

        private Tree call() {
            Tree call = leaf("call", 110, 113);
            must(122);
            if (!take(123)) {
                do {
                    call.parts.add(expression());
                } while (take(124));
                must(123);
            }
            return call;
        }

        private Tree expression() {
            Tree left = simple();
            if (between(140, 145)) {
                Tree relation = leaf("binary", 140, 145);
                relation.parts.addAll(List.of(left, simple()));
                return relation;
            }
            return left;
        }

        private Tree simple() {
            int from = at;
            Tree left;
            if (take(130)) {
                left = new Tree("plus", 130, from, term());
            } else if (take(131)) {
                left = new Tree("minus", 131, from, term());
            } else {
                left = term();
            }
            while (between(130, 131) || look() == 151) {
                at++;
                left = new Tree("binary", tokens[at - 1], at - 1, left, term());
            }
            return left;
        }

        private Tree term() {
            Tree left = factor();
            while (between(132, 134) || look() == 150) {
                at++;
                left = new Tree("binary", tokens[at - 1], at - 1, left, factor());
            }
            return left;
        }

        private Tree factor() {
            int from = at;
            if (between(0, 99)) {
                return leaf("number", 0, 99);
            }
            if (between(100, 107)) {
                return leaf("name", 100, 107);
            }
            if (take(108)) {
                must(125);
                Tree index = expression();
                must(126);
                return new Tree("cell", 108, from, index);
            }
            if (between(110, 113)) {
                return call();
            }
            if (take(152)) {
                return new Tree("not", 152, from, factor());
            }
            must(122);
            Tree inside = expression();
            // The token of a bracket tells where its other one stands.
            Tree bracket = new Tree("bracket", at, from, inside);
            must(123);
            return bracket;
        }
    }
}
