import java.util.ArrayList;
import java.util.HashSet;
import java.util.List;
import java.util.Set;
import java.util.TreeSet;

/** The document's grammar as rules, and Earley's way of reading them: it shares nothing with the class's parser. */
final class Grammar {
    private static final String[] RULES = {
        "Program > Procs begin Statements end",
        "Procs >", "Procs > Procs Proc",
        "Proc > proc P ( Names0 ) Vars begin Statements end",
        "Names0 >", "Names0 > Names", "Names > N", "Names > Names , N",
        "Vars >", "Vars > var Names",
        "Statements > Maybe", "Statements > Statements ; Maybe",
        "Maybe >", "Maybe > Statement",
        "Statement > N := E", "Statement > m [ E ] := E", "Statement > Call", "Statement > put E",
        "Statement > return E", "Statement > while E do Statements end", "Statement > repeat Statements until E",
        "Statement > if E then Statements Elsifs Else end",
        "Elsifs >", "Elsifs > Elsifs elsif E then Statements", "Else >", "Else > else Statements",
        "Call > P ( Args0 )", "Args0 >", "Args0 > Args", "Args > E", "Args > Args , E",
        "E > Simple", "E > Simple Relation Simple",
        "Relation > =", "Relation > #", "Relation > <", "Relation > <=", "Relation > >", "Relation > >=",
        "Simple > Sign Terms", "Sign >", "Sign > +", "Sign > -",
        "Terms > Term", "Terms > Terms + Term", "Terms > Terms - Term", "Terms > Terms or Term",
        "Term > Factor", "Term > Term * Factor", "Term > Term / Factor", "Term > Term % Factor",
        "Term > Term & Factor",
        "Factor > 0", "Factor > N", "Factor > m [ E ]", "Factor > Call", "Factor > ( E )", "Factor > ~ Factor",
    };

    private final List<String> heads = new ArrayList<>();
    private final List<String[]> bodies = new ArrayList<>();
    private final Set<String> nonterminals = new HashSet<>();

    private record Item(int rule, int dot, int from) {
    }

    Grammar() {
        for (String rule : RULES) {
            int arrow = rule.indexOf('>');
            String body = rule.substring(arrow + 1).trim();
            heads.add(rule.substring(0, arrow).trim());
            bodies.add(body.isEmpty() ? new String[0] : body.split(" "));
        }
        nonterminals.addAll(heads);
    }

    static String sort(int token) {
        if (token < 100) {
            return "0";
        }
        if (token < 108) {
            return "N";
        }
        return token >= 110 && token <= 113 ? "P" : Check.words(new int[] {token});
    }

    /** The first token that no program goes on with, the length if all may stand so, -4 if it is a program. */
    int wrongAt(int[] tokens) {
        List<List<Item>> sets = read(tokens);
        if (sets.size() <= tokens.length) {
            return sets.size() - 1;
        }
        return sets.get(tokens.length).contains(new Item(0, bodies.get(0).length, 0)) ? -4 : tokens.length;
    }

    /** The sorts of tokens that programs which begin with these tokens go on with. */
    Set<String> mayFollow(int[] tokens) {
        Set<String> sorts = new TreeSet<>();
        List<List<Item>> sets = read(tokens);
        if (sets.size() <= tokens.length) {
            return sorts;
        }
        for (Item item : sets.get(tokens.length)) {
            String[] body = bodies.get(item.rule);
            if (item.dot < body.length && !nonterminals.contains(body[item.dot])) {
                sorts.add(body[item.dot]);
            }
        }
        return sorts;
    }

    /** The items before each token, up to the first that no program goes on with. */
    private List<List<Item>> read(int[] tokens) {
        List<List<Item>> sets = new ArrayList<>();
        List<Item> start = new ArrayList<>();
        Set<Item> seen = new HashSet<>();
        add(start, seen, new Item(0, 0, 0));
        sets.add(start);
        complete(sets, 0, seen);
        for (int at = 0; at < tokens.length; at++) {
            List<Item> next = new ArrayList<>();
            seen = new HashSet<>();
            String sort = sort(tokens[at]);
            for (Item item : sets.get(at)) {
                String[] body = bodies.get(item.rule);
                if (item.dot < body.length && body[item.dot].equals(sort)) {
                    add(next, seen, new Item(item.rule, item.dot + 1, item.from));
                }
            }
            if (next.isEmpty()) {
                return sets;
            }
            sets.add(next);
            complete(sets, at + 1, seen);
        }
        return sets;
    }

    private static void add(List<Item> items, Set<Item> seen, Item item) {
        if (seen.add(item)) {
            items.add(item);
        }
    }

    private void complete(List<List<Item>> sets, int at, Set<Item> seen) {
        List<Item> items = sets.get(at);
        int before;
        do {
            // Empty rules may be completed before what waits for them is there: so until nothing is new.
            before = items.size();
            for (int i = 0; i < items.size(); i++) {
                Item item = items.get(i);
                String[] body = bodies.get(item.rule);
                if (item.dot == body.length) {
                    advance(sets.get(item.from), items, seen, heads.get(item.rule));
                } else if (nonterminals.contains(body[item.dot])) {
                    predict(items, seen, body[item.dot], at);
                }
            }
        } while (items.size() != before);
    }

    private void advance(List<Item> waiting, List<Item> items, Set<Item> seen, String head) {
        for (int j = 0; j < waiting.size(); j++) {
            Item item = waiting.get(j);
            String[] body = bodies.get(item.rule);
            if (item.dot < body.length && body[item.dot].equals(head)) {
                add(items, seen, new Item(item.rule, item.dot + 1, item.from));
            }
        }
    }

    private void predict(List<Item> items, Set<Item> seen, String head, int at) {
        for (int rule = 0; rule < heads.size(); rule++) {
            if (heads.get(rule).equals(head)) {
                add(items, seen, new Item(rule, 0, at));
            }
        }
    }
}
