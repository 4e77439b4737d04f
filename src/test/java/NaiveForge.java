import java.util.ArrayList;
import java.util.Arrays;
import java.util.Collections;
import java.util.HashMap;
import java.util.HashSet;
import java.util.LinkedHashMap;
import java.util.List;
import java.util.Map;
import java.util.Set;
import java.util.TreeSet;

/**
 * The document told a second time, with collections and recursion and without any thought of speed, so that the
 * random runs have something to compare ParserForge with. It shares no way of working with the class where the
 * document leaves one free: parts of a text are matched straight on the expressions, not by an automaton.
 */
final class NaiveForge {
    /** A letter term has its place; the others have one or two parts. */
    private record Expression(int term, int place, Expression one, Expression two) { }

    private record Production(int number, int left, List<Integer> right, int op, int constant) { }

    private record Item(int production, int at) { }

    private record Token(int rule, int begin, int end, int number) { }

    private static final int START = -1, END = 4;

    private final List<List<Integer>> rules = new ArrayList<>();
    private boolean[] skips = new boolean[4];
    private List<Production> productions = new ArrayList<>();
    private int[] ranks = new int[4];
    private int[] groupings = new int[4];
    private final List<Integer> text = new ArrayList<>();

    private boolean built = false;
    private int[] counts;
    private Expression[] builtRules;
    private boolean[] builtSkips;
    private List<Production> builtProductions;
    private List<Map<Integer, Integer>> builtMoves;
    private List<Map<Integer, Integer>> builtActions;

    private int value = 0;
    private int place = -1;

    NaiveForge() {
        for (int r = 0; r < 4; r++) {
            rules.add(new ArrayList<>());
        }
    }

    boolean rule(int r, int term) {
        if (r < 0 || r > 3 || term < 0 || term > 9 || rules.get(r).size() == 8) {
            return false;
        }
        return rules.get(r).add(term);
    }

    int clear(int r) {
        if (r < 0 || r > 3) {
            return -1;
        }
        int had = rules.get(r).size();
        rules.get(r).clear();
        return had;
    }

    boolean skip(int r, boolean on) {
        if (r < 0 || r > 3) {
            return false;
        }
        skips[r] = on;
        return true;
    }

    int produce(int left, int a, int b, int c) {
        List<Integer> right = new ArrayList<>(List.of(a, b, c));
        while (!right.isEmpty() && right.get(right.size() - 1) == -1) {
            right.remove(right.size() - 1);
        }
        Set<Integer> symbols = Set.of(0, 1, 2, 3, 10, 11, 12);
        if (!Set.of(10, 11, 12).contains(left) || !symbols.containsAll(right) || productions.size() == 8) {
            return -1;
        }
        productions.add(new Production(productions.size(), left, right, 0, 0));
        return productions.size() - 1;
    }

    boolean retract() {
        if (productions.isEmpty()) {
            return false;
        }
        productions.remove(productions.size() - 1);
        return true;
    }

    boolean rank(int t, int rank, int grouping) {
        if (t < 0 || t > 3 || rank < 0 || rank > 5 || grouping < 0 || grouping > 2) {
            return false;
        }
        ranks[t] = rank;
        groupings[t] = grouping;
        return true;
    }

    boolean action(int p, int op, int c) {
        if (p < 0 || p >= productions.size() || op < 0 || op > 3) {
            return false;
        }
        Production old = productions.get(p);
        productions.set(p, new Production(p, old.left, old.right, op, c));
        return true;
    }

    int built(int what) {
        return built && what >= 0 && what < 4 ? counts[what] : -1;
    }

    boolean put(int letter) {
        return letter >= 0 && letter < 4 && text.size() < 20 && text.add(letter);
    }

    int wipe() {
        int had = text.size();
        text.clear();
        return had;
    }

    int value() {
        return value;
    }

    int place() {
        return place;
    }

    int build() {
        Expression[] expressions = new Expression[4];
        int places = 0;
        for (int r = 0; r < 4; r++) {
            if (!rules.get(r).isEmpty()) {
                expressions[r] = read(rules.get(r), places);
                places += 8;
                if (expressions[r] == null) {
                    return 1;
                }
            }
        }
        Map<Set<Integer>, List<Integer>> texts = textsOfSets(expressions);
        List<Set<Item>> states = new ArrayList<>();
        List<Map<Integer, Integer>> moves = new ArrayList<>();
        if (texts == null || !findStates(states, moves)) {
            return 2;
        }
        builtRules = expressions;
        builtSkips = skips.clone();
        builtProductions = List.copyOf(productions);
        builtMoves = moves;
        builtActions = new ArrayList<>();
        counts = new int[] {texts.size(), countClasses(texts, expressions), states.size(), findActions(states)};
        built = true;
        return 0;
    }

    // ---- expressions

    private static Expression read(List<Integer> terms, int firstPlace) {
        List<Expression> stack = new ArrayList<>();
        int place = firstPlace;
        for (int term : terms) {
            int takes = term < 5 ? 0 : term < 7 ? 2 : 1;
            if (stack.size() < takes) {
                return null;
            }
            Expression two = takes == 2 ? stack.remove(stack.size() - 1) : null;
            Expression one = takes >= 1 ? stack.remove(stack.size() - 1) : null;
            stack.add(new Expression(term, term < 5 ? place++ : -1, one, two));
        }
        return stack.size() == 1 ? stack.get(0) : null;
    }

    /** The places in the text up to which the expression can have read from there on. */
    private static Set<Integer> ends(Expression e, List<Integer> letters, int from) {
        Set<Integer> found = new TreeSet<>();
        switch (e.term) {
            case 5 -> ends(e.one, letters, from).forEach(i -> found.addAll(ends(e.two, letters, i)));
            case 6 -> {
                found.addAll(ends(e.one, letters, from));
                found.addAll(ends(e.two, letters, from));
            }
            case 7, 8 -> {
                found.addAll(e.term == 7 ? Set.of(from) : ends(e.one, letters, from));
                for (int size = -1; size < found.size();) {
                    size = found.size();
                    for (int i : List.copyOf(found)) {
                        found.addAll(ends(e.one, letters, i));
                    }
                }
            }
            case 9 -> {
                found.add(from);
                found.addAll(ends(e.one, letters, from));
            }
            default -> {
                if (from < letters.size() && (e.term == 4 || letters.get(from) == e.term)) {
                    found.add(from + 1);
                }
            }
        }
        return found;
    }

    private static int leastMatch(Expression[] expressions, List<Integer> letters) {
        for (int r = 0; r < 4 && !letters.isEmpty(); r++) {
            if (expressions[r] != null && ends(expressions[r], letters, 0).contains(letters.size())) {
                return r;
            }
        }
        return -1;
    }

    /** The places whose letter can be read as the last of the letters, by a way that is still inside e. */
    private static Set<Integer> lastPlaces(Expression e, List<Integer> letters, int from) {
        Set<Integer> found = new TreeSet<>();
        if (e.term < 5) {
            if (from == letters.size() - 1 && ends(e, letters, from).contains(from + 1)) {
                found.add(e.place);
            }
            return found;
        }
        found.addAll(lastPlaces(e.one, letters, from));
        if (e.term == 5) {
            ends(e.one, letters, from).forEach(i -> found.addAll(lastPlaces(e.two, letters, i)));
        } else if (e.term == 6) {
            found.addAll(lastPlaces(e.two, letters, from));
        } else if (e.term < 9) {
            Expression often = new Expression(7, -1, e.one, null);
            ends(often, letters, from).forEach(i -> found.addAll(lastPlaces(e.one, letters, i)));
        }
        return found;
    }

    private static Set<Integer> setOf(Expression[] expressions, List<Integer> letters) {
        Set<Integer> found = new TreeSet<>();
        for (Expression e : expressions) {
            if (e != null) {
                found.addAll(lastPlaces(e, letters, 0));
            }
        }
        return found;
    }

    private static List<Integer> longer(List<Integer> letters, int letter) {
        List<Integer> more = new ArrayList<>(letters);
        more.add(letter);
        return more;
    }

    /** Each set that is not empty with a text that has it; null if there are more than 60. */
    private static Map<Set<Integer>, List<Integer>> textsOfSets(Expression[] expressions) {
        Map<Set<Integer>, List<Integer>> texts = new LinkedHashMap<>();
        List<List<Integer>> open = new ArrayList<>(List.of(List.of()));
        for (int i = 0; i < open.size(); i++) {
            for (int letter = 0; letter < 4; letter++) {
                List<Integer> next = longer(open.get(i), letter);
                Set<Integer> set = setOf(expressions, next);
                if (!set.isEmpty() && texts.putIfAbsent(set, next) == null) {
                    open.add(next);
                }
            }
            if (texts.size() > 60) {
                return null;
            }
        }
        return texts;
    }

    private static int countClasses(Map<Set<Integer>, List<Integer>> texts, Expression[] expressions) {
        if (texts.isEmpty()) {
            return 0;
        }
        List<List<Integer>> all = new ArrayList<>(texts.values());
        all.add(List.of());
        List<Set<Integer>> sets = new ArrayList<>(texts.keySet());
        int n = all.size();
        int[][] next = new int[n + 1][4];
        int[] match = new int[n + 1];
        Arrays.fill(next[n], n);
        match[n] = -1;
        for (int i = 0; i < n; i++) {
            match[i] = leastMatch(expressions, all.get(i));
            for (int letter = 0; letter < 4; letter++) {
                int found = sets.indexOf(setOf(expressions, longer(all.get(i), letter)));
                next[i][letter] = found < 0 ? n : found;
            }
        }
        boolean[][] differ = new boolean[n + 1][n + 1];
        for (boolean grown = true; grown;) {
            grown = false;
            for (int i = 0; i <= n; i++) {
                for (int j = 0; j <= n; j++) {
                    boolean now = match[i] != match[j];
                    for (int letter = 0; letter < 4; letter++) {
                        now |= differ[next[i][letter]][next[j][letter]];
                    }
                    grown |= now && !differ[i][j];
                    differ[i][j] |= now;
                }
            }
        }
        int count = 0;
        for (int i = 0; i < n; i++) {
            boolean isNew = true;
            for (int j = 0; j < i; j++) {
                isNew &= differ[i][j];
            }
            count += isNew ? 1 : 0;
        }
        return count;
    }

    // ---- parser

    private Production production(int number) {
        return number == START ? new Production(START, -2, List.of(10), 0, 0) : productions.get(number);
    }

    private Integer symbolAt(Item item) {
        List<Integer> right = production(item.production).right;
        return item.at < right.size() ? right.get(item.at) : null;
    }

    private Set<Item> closure(Set<Item> kernel) {
        Set<Item> closed = new HashSet<>(kernel);
        for (int size = -1; size < closed.size();) {
            size = closed.size();
            for (Item item : List.copyOf(closed)) {
                for (Production p : productions) {
                    if (Integer.valueOf(p.left).equals(symbolAt(item))) {
                        closed.add(new Item(p.number, 0));
                    }
                }
            }
        }
        return closed;
    }

    private boolean findStates(List<Set<Item>> states, List<Map<Integer, Integer>> moves) {
        states.add(closure(Set.of(new Item(START, 0))));
        for (int s = 0; s < states.size(); s++) {
            Map<Integer, Set<Item>> kernels = new HashMap<>();
            for (Item item : states.get(s)) {
                if (symbolAt(item) != null) {
                    kernels.computeIfAbsent(symbolAt(item), x -> new HashSet<>())
                        .add(new Item(item.production, item.at + 1));
                }
            }
            moves.add(new HashMap<>());
            for (Map.Entry<Integer, Set<Item>> e : kernels.entrySet()) {
                Set<Item> state = closure(e.getValue());
                if (!states.contains(state)) {
                    states.add(state);
                }
                moves.get(s).put(e.getKey(), states.indexOf(state));
            }
            if (states.size() > 40) {
                return false;
            }
        }
        return true;
    }

    private Set<Integer> nullables() {
        Set<Integer> found = new HashSet<>();
        for (int round = 0; round < 4; round++) {
            for (Production p : productions) {
                if (found.containsAll(p.right)) {
                    found.add(p.left);
                }
            }
        }
        return found;
    }

    private static Set<Integer> beginOf(List<Integer> row, Map<Integer, Set<Integer>> begins, Set<Integer> nullables) {
        if (row.isEmpty()) {
            return new TreeSet<>();
        }
        int first = row.get(0);
        Set<Integer> found = new TreeSet<>(first < 4 ? Set.of(first) : begins.get(first));
        if (nullables.contains(first)) {
            found.addAll(beginOf(row.subList(1, row.size()), begins, nullables));
        }
        return found;
    }

    private Map<Integer, Set<Integer>> findBegins(Set<Integer> nullables) {
        Map<Integer, Set<Integer>> begins = new HashMap<>();
        for (int n = 10; n < 13; n++) {
            begins.put(n, new TreeSet<>());
        }
        for (int round = 0; round < 20; round++) {
            for (Production p : productions) {
                begins.get(p.left).addAll(beginOf(p.right, begins, nullables));
            }
        }
        return begins;
    }

    private List<Map<Item, Set<Integer>>> findLookaheads(List<Set<Item>> states) {
        List<Map<Item, Set<Integer>>> ahead = new ArrayList<>();
        for (Set<Item> state : states) {
            Map<Item, Set<Integer>> row = new HashMap<>();
            state.forEach(item -> row.put(item, new TreeSet<>()));
            ahead.add(row);
        }
        ahead.get(0).get(new Item(START, 0)).add(END);
        Set<Integer> nullables = nullables();
        Map<Integer, Set<Integer>> begins = findBegins(nullables);
        for (boolean grown = true; grown;) {
            grown = false;
            for (int s = 0; s < states.size(); s++) {
                for (Item item : states.get(s)) {
                    Integer symbol = symbolAt(item);
                    if (symbol == null) {
                        continue;
                    }
                    Set<Integer> own = ahead.get(s).get(item);
                    int target = builtMoves.get(s).get(symbol);
                    grown |= ahead.get(target).get(new Item(item.production, item.at + 1)).addAll(own);
                    List<Integer> right = production(item.production).right;
                    List<Integer> w = right.subList(item.at + 1, right.size());
                    Set<Integer> given = beginOf(w, begins, nullables);
                    if (nullables.containsAll(w)) {
                        given.addAll(own);
                    }
                    for (Production p : productions) {
                        if (p.left == symbol) {
                            grown |= ahead.get(s).get(new Item(p.number, 0)).addAll(given);
                        }
                    }
                }
            }
        }
        return ahead;
    }

    /** An action: the number of a production, START to accept, 100 to shift. */
    private int findActions(List<Set<Item>> states) {
        List<Map<Item, Set<Integer>>> ahead = findLookaheads(states);
        int conflicts = 0;
        for (int s = 0; s < states.size(); s++) {
            Map<Integer, Integer> row = new HashMap<>();
            for (int t = 0; t <= END; t++) {
                List<Integer> reduces = new ArrayList<>();
                for (Item item : states.get(s)) {
                    if (symbolAt(item) == null && ahead.get(s).get(item).contains(t)) {
                        reduces.add(item.production);
                    }
                }
                Collections.sort(reduces);
                conflicts += Math.max(0, reduces.size() - 1);
                boolean shift = builtMoves.get(s).containsKey(t);
                if (shift && !reduces.isEmpty()) {
                    int p = rankOf(production(reduces.get(0)));
                    boolean ranked = p > 0 && ranks[t] > 0;
                    conflicts += ranked ? 0 : 1;
                    if (!ranked || p < ranks[t] || p == ranks[t] && groupings[t] == 1) {
                        row.put(t, 100);
                    } else if (p > ranks[t] || groupings[t] == 0) {
                        row.put(t, reduces.get(0));
                    }
                } else if (shift) {
                    row.put(t, 100);
                } else if (!reduces.isEmpty()) {
                    row.put(t, reduces.get(0));
                }
            }
            builtActions.add(row);
        }
        return conflicts;
    }

    private int rankOf(Production p) {
        for (int i = p.right.size() - 1; i >= 0; i--) {
            if (p.right.get(i) < 4) {
                return ranks[p.right.get(i)];
            }
        }
        return 0;
    }

    // ---- use

    private int cut(List<Token> tokens) {
        int begin = 0;
        while (begin < text.size()) {
            int end = text.size();
            while (end > begin && leastMatch(builtRules, text.subList(begin, end)) < 0) {
                end--;
            }
            if (end == begin) {
                return begin;
            }
            List<Integer> letters = text.subList(begin, end);
            int rule = leastMatch(builtRules, letters);
            long number = 0;
            for (int letter : letters) {
                number = number * 4 + letter;
            }
            if (!builtSkips[rule]) {
                tokens.add(new Token(rule, begin, end, (int) number));
            }
            begin = end;
        }
        return -1;
    }

    int tokens() {
        if (!built) {
            return -1;
        }
        List<Token> tokens = new ArrayList<>();
        cut(tokens);
        return tokens.size();
    }

    int token(int k, int what) {
        List<Token> tokens = new ArrayList<>();
        if (built) {
            cut(tokens);
        }
        if (k < 0 || k >= tokens.size() || what < 0 || what > 3) {
            return -1;
        }
        Token t = tokens.get(k);
        return List.of(t.rule, t.begin, t.end, t.number).get(what);
    }

    int parse() {
        if (!built) {
            return 3;
        }
        value = 0;
        List<Token> tokens = new ArrayList<>();
        int stuck = cut(tokens);
        if (stuck >= 0) {
            place = stuck;
            return 4;
        }
        List<Integer> states = new ArrayList<>(List.of(0));
        List<Integer> values = new ArrayList<>();
        int looked = 0;
        int done = 0;
        int reduces = 0;
        while (true) {
            int top = states.get(states.size() - 1);
            int t = looked < tokens.size() ? tokens.get(looked).rule : END;
            Integer chosen = builtActions.get(top).get(t);
            if (chosen == null) {
                place = 64 * looked;
                for (int with : builtActions.get(top).keySet()) {
                    place += 1 << with;
                }
                return 5;
            }
            if (chosen == START) {
                value = values.get(0);
                place = reduces;
                return 0;
            }
            if (done == 150) {
                place = looked;
                return 6;
            }
            done++;
            if (chosen == 100) {
                values.add(tokens.get(looked++).number);
                states.add(builtMoves.get(top).get(t));
                continue;
            }
            Production p = builtProductions.get(chosen);
            int rest = values.size() - p.right.size();
            List<Integer> taken = List.copyOf(values.subList(rest, values.size()));
            values = new ArrayList<>(values.subList(0, rest));
            states = new ArrayList<>(states.subList(0, rest + 1));
            values.add(valueOf(p, taken));
            states.add(builtMoves.get(states.get(rest)).get(p.left));
            reduces++;
        }
    }

    private static int valueOf(Production p, List<Integer> parts) {
        int result = p.constant;
        if (p.op == 0) {
            for (int part : parts) {
                result += part;
            }
        } else if (p.op == 1) {
            int product = 1;
            for (int part : parts) {
                product *= part;
            }
            result += product;
        } else if (p.op == 2) {
            for (int i = 0; i < parts.size(); i++) {
                result += i == 0 ? parts.get(i) : -parts.get(i);
            }
        } else if (parts.size() > 1) {
            result += parts.get(1);
        }
        return result;
    }
}
