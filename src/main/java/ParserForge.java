/**
 * A generator of scanners and parsers: token rules become an automaton, a grammar becomes tables with one
 * terminal of lookahead; texts are cut into tokens, parsed and valued.
 */
public final class ParserForge {
    public static final int OK = 0, RULES = 1, MANY = 2, UNBUILT = 3, STUCK = 4, ERROR = 5, ENDLESS = 6;

    private static final int NONE = -1;
    private static final int SET_COUNT = 0, CLASS_COUNT = 1, STATE_COUNT = 2, CONFLICT_COUNT = 3, COUNT_KINDS = 4;

    private static final int LETTERS = 4, TEXT_LIMIT = 20;

    private static final int RULE_COUNT = 4, TERM_LIMIT = 8, TERM_KINDS = 10;
    private static final int RULE_CELLS = RULE_COUNT * TERM_LIMIT;
    private static final int ANY_LETTER = 4, THEN = 5, OR = 6, ANY_TIMES = 7, ONCE_OR_NOT = 9;

    // A well formed rule has at most 4 letter terms: 5 would need 4 more terms to become one expression.
    private static final int PLACE_LIMIT = 16;
    // Stands for the place before all letters, so that the beginning is a set like the others.
    private static final int BEGINNING = 16;
    private static final int PLACE_SLOTS = PLACE_LIMIT + 1;
    // 60 sets and the beginning.
    private static final int SET_SLOTS = 61;
    private static final int STEP_CELLS = SET_SLOTS * LETTERS;

    private static final int PRODUCTION_LIMIT = 8, PRODUCTION_SLOTS = 9;
    // START's production has the last slot, so that the numbers of the others are their slots.
    private static final int START = 8, START_SYMBOL = 13;
    private static final int LEFT = 0, LENGTH = 1, RIGHT = 2, OP = 5, CONSTANT = 6, PRODUCTION_CELLS = 7;
    private static final int GRAMMAR_CELLS = PRODUCTION_SLOTS * PRODUCTION_CELLS;

    private static final int TOKEN_TERMINALS = 4, END = 4, TERMINALS = 5;
    private static final int NONTERMINALS = 3, FIRST_NONTERMINAL = 10, SYMBOL_SLOTS = 13;
    private static final int RANK_LIMIT = 5, GROUPINGS = 3, BY_REDUCE = 0, BY_SHIFT = 1, OPS = 4;
    // In a set of beginning terminals: what they begin can also be empty.
    private static final int NULLABLE = 1 << TERMINALS;

    // An item is its production's slot times ITEM_STRIDE plus its place: the next place is the next number.
    private static final int ITEM_STRIDE = 4, ITEM_LIMIT = START * ITEM_STRIDE + 2;
    private static final int STATE_LIMIT = 40;
    private static final int MOVE_CELLS = STATE_LIMIT * SYMBOL_SLOTS;
    private static final int ACTION_CELLS = STATE_LIMIT * TERMINALS;
    private static final int LOOKAHEAD_CELLS = STATE_LIMIT * ITEM_LIMIT;
    // Each round but the last adds one terminal to one cell, or one mark to a nonterminal, at least.
    private static final int LOOKAHEAD_ROUNDS = LOOKAHEAD_CELLS * TERMINALS + 1;
    private static final int BEGIN_ROUNDS = NONTERMINALS * (TERMINALS + 1) + 1;

    // An action is the slot of the production to reduce by (START's: accept), or one of these.
    private static final int SHIFT = 9, NO_ACTION = -1, UNSETTLED = -2;
    private static final int STEP_LIMIT = 150, STACK_CELLS = STEP_LIMIT + 1;
    private static final int TOKEN_FACTOR = 64;

    private final int[] ruleTerms = new int[RULE_CELLS];
    private final int[] ruleLengths = new int[RULE_COUNT];
    private final boolean[] skips = new boolean[RULE_COUNT];
    private final int[] grammar = new int[GRAMMAR_CELLS];
    private int productionCount = 0;
    private final int[] ranks = new int[TOKEN_TERMINALS];
    private final int[] groupings = new int[TOKEN_TERMINALS];
    private final int[] text = new int[TEXT_LIMIT];
    private int textLength = 0;

    // What a build works on; it may still be given up, so nothing that was built before may live here.
    private final int[] heads = new int[TERM_LIMIT];
    private final int[] tails = new int[TERM_LIMIT];
    private final boolean[] empties = new boolean[TERM_LIMIT];
    private final int[] placeLetters = new int[PLACE_LIMIT];
    private final int[] followers = new int[PLACE_SLOTS];
    private final int[] ruleEnds = new int[RULE_COUNT];
    private final long[] sets = new long[SET_SLOTS];
    private final int[] steps = new int[STEP_CELLS];
    private final int[] classes = new int[SET_SLOTS];
    private final int[] finerClasses = new int[SET_SLOTS];
    private final long[] states = new long[STATE_LIMIT];
    private final int[] moves = new int[MOVE_CELLS];
    private final int[] begins = new int[NONTERMINALS];
    private final int[] lookaheads = new int[LOOKAHEAD_CELLS];

    private boolean anythingBuilt = false;
    private final int[] builtCounts = new int[COUNT_KINDS];
    private final int[] builtSteps = new int[STEP_CELLS];
    private final int[] builtMatches = new int[SET_SLOTS];
    private final boolean[] builtSkips = new boolean[RULE_COUNT];
    private final int[] builtGrammar = new int[GRAMMAR_CELLS];
    private final int[] builtMoves = new int[MOVE_CELLS];
    private final int[] builtActions = new int[ACTION_CELLS];

    private final int[] tokenRules = new int[TEXT_LIMIT];
    private final int[] tokenBegins = new int[TEXT_LIMIT];
    private final int[] tokenEnds = new int[TEXT_LIMIT];
    private int tokenCount = 0;

    private final int[] stackStates = new int[STACK_CELLS];
    private final int[] stackValues = new int[STACK_CELLS];
    private int parseValue = 0;
    private int parsePlace = NONE;

    public ParserForge() {
        int cell = START * PRODUCTION_CELLS;
        grammar[cell + LEFT] = START_SYMBOL;
        grammar[cell + LENGTH] = 1;
        grammar[cell + RIGHT] = FIRST_NONTERMINAL;
    }

    public boolean rule(int r, int term) {
        if (!isBelow(r, RULE_COUNT) || !isBelow(term, TERM_KINDS) || ruleLengths[r] == TERM_LIMIT) {
            return false;
        }
        ruleTerms[r * TERM_LIMIT + ruleLengths[r]] = term;
        ruleLengths[r]++;
        return true;
    }

    public int clear(int r) {
        if (!isBelow(r, RULE_COUNT)) {
            return NONE;
        }
        int had = ruleLengths[r];
        ruleLengths[r] = 0;
        return had;
    }

    public boolean skip(int r, boolean on) {
        if (!isBelow(r, RULE_COUNT)) {
            return false;
        }
        skips[r] = on;
        return true;
    }

    public int produce(int left, int a, int b, int c) {
        if (productionCount == PRODUCTION_LIMIT || !isNonterminal(left) || !isRightSide(a, b, c)) {
            return NONE;
        }
        int cell = productionCount * PRODUCTION_CELLS;
        grammar[cell + LEFT] = left;
        grammar[cell + LENGTH] = a == NONE ? 0 : b == NONE ? 1 : c == NONE ? 2 : 3;
        grammar[cell + RIGHT] = a;
        grammar[cell + RIGHT + 1] = b;
        grammar[cell + RIGHT + 2] = c;
        // The slot may still hold the action of a production that was retracted.
        grammar[cell + OP] = 0;
        grammar[cell + CONSTANT] = 0;
        productionCount++;
        return productionCount - 1;
    }

    public boolean retract() {
        if (productionCount == 0) {
            return false;
        }
        productionCount--;
        return true;
    }

    public boolean rank(int t, int rank, int grouping) {
        if (!isBelow(t, TOKEN_TERMINALS) || !isBelow(rank, RANK_LIMIT + 1) || !isBelow(grouping, GROUPINGS)) {
            return false;
        }
        ranks[t] = rank;
        groupings[t] = grouping;
        return true;
    }

    public boolean action(int p, int op, int c) {
        if (!isBelow(p, productionCount) || !isBelow(op, OPS)) {
            return false;
        }
        grammar[p * PRODUCTION_CELLS + OP] = op;
        grammar[p * PRODUCTION_CELLS + CONSTANT] = c;
        return true;
    }

    public int build() {
        if (!rulesAreFit()) {
            return RULES;
        }
        layOutRules();
        int slots = findSets();
        int parserStates = findStates();
        if (slots == NONE || parserStates == NONE) {
            return MANY;
        }
        keepScanner(slots);
        builtCounts[SET_COUNT] = slots - 1;
        builtCounts[CLASS_COUNT] = countClasses(slots);
        findBegins();
        findLookaheads(parserStates);
        keepParser();
        builtCounts[STATE_COUNT] = parserStates;
        builtCounts[CONFLICT_COUNT] = keepActions(parserStates);
        anythingBuilt = true;
        return OK;
    }

    public int built(int what) {
        if (!anythingBuilt || !isBelow(what, COUNT_KINDS)) {
            return NONE;
        }
        return builtCounts[what];
    }

    public boolean put(int letter) {
        if (!isBelow(letter, LETTERS) || textLength == TEXT_LIMIT) {
            return false;
        }
        text[textLength] = letter;
        textLength++;
        return true;
    }

    public int wipe() {
        int had = textLength;
        textLength = 0;
        return had;
    }

    public int tokens() {
        if (!anythingBuilt) {
            return NONE;
        }
        cutText();
        return tokenCount;
    }

    public int token(int k, int what) {
        if (!anythingBuilt) {
            return NONE;
        }
        cutText();
        if (!isBelow(k, tokenCount)) {
            return NONE;
        }
        switch (what) {
            case 0: return tokenRules[k];
            case 1: return tokenBegins[k];
            case 2: return tokenEnds[k];
            case 3: return numberOfToken(k);
            default: return NONE;
        }
    }

    public int parse() {
        if (!anythingBuilt) {
            return UNBUILT;
        }
        parseValue = 0;
        int cutTo = cutText();
        if (cutTo < textLength) {
            parsePlace = cutTo;
            return STUCK;
        }
        return runParser();
    }

    public int value() {
        return parseValue;
    }

    public int place() {
        return parsePlace;
    }

    private static boolean isBelow(int number, int limit) {
        return number >= 0 && number < limit;
    }

    private static boolean isNonterminal(int symbol) {
        return symbol >= FIRST_NONTERMINAL && symbol < FIRST_NONTERMINAL + NONTERMINALS;
    }

    private static boolean isSymbolOrNone(int symbol) {
        return symbol == NONE || isBelow(symbol, TOKEN_TERMINALS) || isNonterminal(symbol);
    }

    private static boolean isRightSide(int a, int b, int c) {
        if (!isSymbolOrNone(a) || !isSymbolOrNone(b) || !isSymbolOrNone(c)) {
            return false;
        }
        return (a != NONE || b == NONE) && (b != NONE || c == NONE);
    }

    // ---- from rules to sets of places

    private boolean rulesAreFit() {
        for (int r = 0; r < RULE_COUNT; r++) {
            if (ruleLengths[r] > 0 && !isWellFormed(r)) {
                return false;
            }
        }
        return true;
    }

    private boolean isWellFormed(int r) {
        int expressions = 0;
        for (int i = 0; i < TERM_LIMIT && i < ruleLengths[r]; i++) {
            int term = ruleTerms[r * TERM_LIMIT + i];
            int taken = term <= ANY_LETTER ? 0 : term <= OR ? 2 : 1;
            if (expressions < taken) {
                return false;
            }
            expressions += 1 - taken;
        }
        return expressions == 1;
    }

    private void layOutRules() {
        for (int place = 0; place < PLACE_SLOTS; place++) {
            followers[place] = 0;
        }
        int used = 0;
        for (int r = 0; r < RULE_COUNT; r++) {
            ruleEnds[r] = 0;
            if (ruleLengths[r] > 0) {
                used = layOutRule(r, used);
                followers[BEGINNING] |= heads[0];
                ruleEnds[r] = tails[0];
            }
        }
    }

    /** Leaves the rule's expression at the bottom of heads, tails and empties; answers the next free place. */
    private int layOutRule(int r, int firstPlace) {
        int place = firstPlace;
        int depth = 0;
        for (int i = 0; i < TERM_LIMIT && i < ruleLengths[r]; i++) {
            int term = ruleTerms[r * TERM_LIMIT + i];
            if (term <= ANY_LETTER) {
                placeLetters[place] = term;
                heads[depth] = 1 << place;
                tails[depth] = 1 << place;
                empties[depth] = false;
                place++;
                depth++;
            } else if (term == THEN) {
                depth--;
                chain(depth - 1, depth);
            } else if (term == OR) {
                depth--;
                unite(depth - 1, depth);
            } else {
                repeat(depth - 1, term);
            }
        }
        return place;
    }

    private void chain(int one, int other) {
        letFollow(tails[one], heads[other]);
        if (empties[one]) {
            heads[one] |= heads[other];
        }
        tails[one] = empties[other] ? tails[one] | tails[other] : tails[other];
        empties[one] = empties[one] && empties[other];
    }

    private void unite(int one, int other) {
        heads[one] |= heads[other];
        tails[one] |= tails[other];
        empties[one] = empties[one] || empties[other];
    }

    private void repeat(int one, int term) {
        if (term != ONCE_OR_NOT) {
            letFollow(tails[one], heads[one]);
        }
        if (term == ANY_TIMES || term == ONCE_OR_NOT) {
            empties[one] = true;
        }
    }

    private void letFollow(int before, int behind) {
        for (int place = 0; place < PLACE_LIMIT; place++) {
            if ((before >> place & 1) != 0) {
                followers[place] |= behind;
            }
        }
    }

    /** Answers how many slots of sets are used, with the beginning, or NONE if they are too few. */
    private int findSets() {
        sets[0] = 1L << BEGINNING;
        int count = 1;
        for (int s = 0; s < SET_SLOTS && s < count; s++) {
            for (int letter = 0; letter < LETTERS; letter++) {
                long set = setBehind(sets[s], letter);
                int slot = set == 0 ? NONE : slotOf(set, sets, count);
                if (slot == SET_SLOTS) {
                    return NONE;
                }
                if (slot == count) {
                    sets[count] = set;
                    count++;
                }
                steps[s * LETTERS + letter] = slot;
            }
        }
        return count;
    }

    private long setBehind(long set, int letter) {
        int reached = 0;
        for (int place = 0; place < PLACE_SLOTS; place++) {
            if ((set >> place & 1) != 0) {
                reached |= followers[place];
            }
        }
        int readable = 0;
        for (int place = 0; place < PLACE_LIMIT; place++) {
            if (placeLetters[place] == letter || placeLetters[place] == ANY_LETTER) {
                readable |= 1 << place;
            }
        }
        return reached & readable;
    }

    /** Where the row stands among the first count rows, count if it is new. */
    private static int slotOf(long row, long[] rows, int count) {
        for (int slot = 0; slot < rows.length && slot < count; slot++) {
            if (rows[slot] == row) {
                return slot;
            }
        }
        return count;
    }

    private void keepScanner(int slots) {
        for (int s = 0; s < SET_SLOTS && s < slots; s++) {
            builtMatches[s] = leastRuleEndingIn(sets[s]);
        }
        for (int cell = 0; cell < STEP_CELLS; cell++) {
            builtSteps[cell] = steps[cell];
        }
        for (int r = 0; r < RULE_COUNT; r++) {
            builtSkips[r] = skips[r];
        }
    }

    private int leastRuleEndingIn(long set) {
        for (int r = 0; r < RULE_COUNT; r++) {
            if ((ruleEnds[r] & set) != 0) {
                return r;
            }
        }
        return NONE;
    }

    private int countClasses(int slots) {
        // Without a set no rule matches anything, so that the empty text is in no class either.
        if (slots == 1) {
            return 0;
        }
        for (int s = 0; s < SET_SLOTS && s < slots; s++) {
            classes[s] = builtMatches[s];
        }
        int count = 0;
        for (int round = 0; round <= SET_SLOTS; round++) {
            int finer = refineClasses(slots);
            if (finer == count) {
                break;
            }
            count = finer;
        }
        return count;
    }

    private int refineClasses(int slots) {
        int count = 0;
        for (int s = 0; s < SET_SLOTS && s < slots; s++) {
            int twin = firstTwin(s);
            finerClasses[s] = twin == s ? count : finerClasses[twin];
            if (twin == s) {
                count++;
            }
        }
        for (int s = 0; s < SET_SLOTS && s < slots; s++) {
            classes[s] = finerClasses[s];
        }
        return count;
    }

    private int firstTwin(int s) {
        for (int other = 0; other < SET_SLOTS && other < s; other++) {
            if (areTwins(other, s)) {
                return other;
            }
        }
        return s;
    }

    private boolean areTwins(int one, int other) {
        if (classes[one] != classes[other]) {
            return false;
        }
        for (int letter = 0; letter < LETTERS; letter++) {
            int behindOne = steps[one * LETTERS + letter];
            int behindOther = steps[other * LETTERS + letter];
            if (behindOne == NONE || behindOther == NONE) {
                if (behindOne != behindOther) {
                    return false;
                }
            } else if (classes[behindOne] != classes[behindOther]) {
                return false;
            }
        }
        return true;
    }

    // ---- from productions to parser states

    /** The symbol that the item stands before, NONE at its end. */
    private int symbolBehind(int item) {
        int cell = item / ITEM_STRIDE * PRODUCTION_CELLS;
        int at = item % ITEM_STRIDE;
        return at < grammar[cell + LENGTH] ? grammar[cell + RIGHT + at] : NONE;
    }

    /** Answers how many states there are, or NONE if there are too many. */
    private int findStates() {
        states[0] = closureOf(1L << (START * ITEM_STRIDE));
        int count = 1;
        for (int s = 0; s < STATE_LIMIT && s < count; s++) {
            for (int symbol = 0; symbol < SYMBOL_SLOTS; symbol++) {
                long items = itemsBehind(states[s], symbol);
                int slot = items == 0 ? NONE : slotOf(items, states, count);
                if (slot == STATE_LIMIT) {
                    return NONE;
                }
                if (slot == count) {
                    states[count] = items;
                    count++;
                }
                moves[s * SYMBOL_SLOTS + symbol] = slot;
            }
        }
        return count;
    }

    private long itemsBehind(long items, int symbol) {
        long moved = 0;
        for (int item = 0; item < ITEM_LIMIT; item++) {
            if ((items >> item & 1) != 0 && symbolBehind(item) == symbol) {
                moved |= 1L << (item + 1);
            }
        }
        return closureOf(moved);
    }

    private long closureOf(long items) {
        long closed = items;
        // A round that adds anything adds all productions of one nonterminal at least.
        for (int round = 0; round < NONTERMINALS; round++) {
            for (int item = 0; item < ITEM_LIMIT; item++) {
                if ((closed >> item & 1) != 0) {
                    int symbol = symbolBehind(item);
                    closed |= beginningsOf(symbol);
                }
            }
        }
        return closed;
    }

    /** The productions of the symbol, as items that stand at their beginnings. */
    private long beginningsOf(int symbol) {
        long items = 0;
        for (int p = 0; p < PRODUCTION_LIMIT && p < productionCount; p++) {
            if (grammar[p * PRODUCTION_CELLS + LEFT] == symbol) {
                items |= 1L << (p * ITEM_STRIDE);
            }
        }
        return items;
    }

    // ---- lookaheads

    private void findBegins() {
        for (int n = 0; n < NONTERMINALS; n++) {
            begins[n] = 0;
        }
        for (int round = 0; round < BEGIN_ROUNDS; round++) {
            for (int p = 0; p < PRODUCTION_LIMIT && p < productionCount; p++) {
                int n = grammar[p * PRODUCTION_CELLS + LEFT] - FIRST_NONTERMINAL;
                begins[n] |= beginOfRest(p * ITEM_STRIDE);
            }
        }
    }

    /** The terminals that begin the symbols behind the item's place, and NULLABLE if all of these are. */
    private int beginOfRest(int item) {
        int found = 0;
        for (int i = 0; i < ITEM_STRIDE; i++) {
            int symbol = symbolBehind(item + i);
            if (symbol == NONE) {
                return found | NULLABLE;
            }
            int begin = isNonterminal(symbol) ? begins[symbol - FIRST_NONTERMINAL] : 1 << symbol;
            found |= begin & ~NULLABLE;
            if ((begin & NULLABLE) == 0) {
                return found;
            }
        }
        return found;
    }

    private void findLookaheads(int parserStates) {
        for (int cell = 0; cell < LOOKAHEAD_CELLS; cell++) {
            lookaheads[cell] = 0;
        }
        lookaheads[START * ITEM_STRIDE] = 1 << END;
        boolean grown = true;
        for (int round = 0; round < LOOKAHEAD_ROUNDS && grown; round++) {
            grown = false;
            for (int s = 0; s < STATE_LIMIT && s < parserStates; s++) {
                for (int item = 0; item < ITEM_LIMIT; item++) {
                    if ((states[s] >> item & 1) != 0 && handOn(s, item)) {
                        grown = true;
                    }
                }
            }
        }
    }

    /** Hands the item's lookaheads on to where they belong too; answers whether that was new anywhere. */
    private boolean handOn(int s, int item) {
        int symbol = symbolBehind(item);
        if (symbol == NONE) {
            return false;
        }
        int own = lookaheads[s * ITEM_LIMIT + item];
        int target = moves[s * SYMBOL_SLOTS + symbol];
        boolean grown = addLookaheads(target, item + 1, own);
        if (isNonterminal(symbol)) {
            int behind = beginOfRest(item + 1);
            int given = (behind & NULLABLE) != 0 ? (behind & ~NULLABLE) | own : behind;
            for (int p = 0; p < PRODUCTION_LIMIT && p < productionCount; p++) {
                if (grammar[p * PRODUCTION_CELLS + LEFT] == symbol && addLookaheads(s, p * ITEM_STRIDE, given)) {
                    grown = true;
                }
            }
        }
        return grown;
    }

    private boolean addLookaheads(int s, int item, int terminals) {
        int cell = s * ITEM_LIMIT + item;
        int had = lookaheads[cell];
        lookaheads[cell] = had | terminals;
        return lookaheads[cell] != had;
    }

    // ---- actions

    private void keepParser() {
        for (int cell = 0; cell < MOVE_CELLS; cell++) {
            builtMoves[cell] = moves[cell];
        }
        for (int cell = 0; cell < GRAMMAR_CELLS; cell++) {
            builtGrammar[cell] = grammar[cell];
        }
    }

    /** Answers how many conflicts there were. */
    private int keepActions(int parserStates) {
        int conflicts = 0;
        for (int s = 0; s < STATE_LIMIT && s < parserStates; s++) {
            for (int t = 0; t < TERMINALS; t++) {
                conflicts += chooseAction(s, t);
            }
        }
        return conflicts;
    }

    /** Answers how many conflicts the choice met. */
    private int chooseAction(int s, int t) {
        int chosen = NO_ACTION;
        int reduces = 0;
        for (int p = 0; p < PRODUCTION_SLOTS; p++) {
            if (canReduce(s, p, t)) {
                reduces++;
                if (reduces == 1 || p == START) {
                    chosen = p;
                }
            }
        }
        int conflicts = reduces > 1 ? reduces - 1 : 0;
        // No right side has END, so its column in moves is always NONE.
        if (moves[s * SYMBOL_SLOTS + t] != NONE) {
            chosen = reduces == 0 ? SHIFT : settleByRank(chosen, t);
            if (chosen == UNSETTLED) {
                chosen = SHIFT;
                conflicts++;
            }
        }
        builtActions[s * TERMINALS + t] = chosen;
        return conflicts;
    }

    private boolean canReduce(int s, int p, int t) {
        int item = p * ITEM_STRIDE + grammar[p * PRODUCTION_CELLS + LENGTH];
        return (states[s] >> item & 1) != 0 && (lookaheads[s * ITEM_LIMIT + item] >> t & 1) != 0;
    }

    private int settleByRank(int p, int t) {
        if (!isBelow(t, TOKEN_TERMINALS)) {
            return UNSETTLED;
        }
        int ofProduction = rankOfProduction(p);
        int ofTerminal = ranks[t];
        if (ofProduction == 0 || ofTerminal == 0) {
            return UNSETTLED;
        }
        if (ofProduction != ofTerminal) {
            return ofProduction > ofTerminal ? p : SHIFT;
        }
        return groupings[t] == BY_REDUCE ? p : groupings[t] == BY_SHIFT ? SHIFT : NO_ACTION;
    }

    /** The rank of its last terminal, 0 if it has none. */
    private int rankOfProduction(int p) {
        int found = 0;
        for (int at = 0; at < ITEM_STRIDE; at++) {
            int symbol = symbolBehind(p * ITEM_STRIDE + at);
            if (symbol == NONE) {
                break;
            }
            if (isBelow(symbol, TOKEN_TERMINALS)) {
                found = ranks[symbol];
            }
        }
        return found;
    }

    // ---- scanning

    /** Finds the tokens of the text; answers the place up to which it could be cut. */
    private int cutText() {
        tokenCount = 0;
        int begin = 0;
        for (int taken = 0; taken < TEXT_LIMIT && begin < textLength; taken++) {
            int end = begin;
            int match = NONE;
            int s = 0;
            for (int i = begin; i < TEXT_LIMIT && i < textLength; i++) {
                s = builtSteps[s * LETTERS + text[i]];
                if (s == NONE) {
                    break;
                }
                if (builtMatches[s] != NONE) {
                    match = builtMatches[s];
                    end = i + 1;
                }
            }
            if (match == NONE) {
                return begin;
            }
            if (!builtSkips[match]) {
                keepToken(match, begin, end);
            }
            begin = end;
        }
        return begin;
    }

    private void keepToken(int match, int begin, int end) {
        tokenRules[tokenCount] = match;
        tokenBegins[tokenCount] = begin;
        tokenEnds[tokenCount] = end;
        tokenCount++;
    }

    private int numberOfToken(int k) {
        int number = 0;
        for (int i = tokenBegins[k]; i < TEXT_LIMIT && i < tokenEnds[k]; i++) {
            number = number * LETTERS + text[i];
        }
        return number;
    }

    // ---- parsing

    private int runParser() {
        stackStates[0] = 0;
        int top = 0;
        int looked = 0;
        int reduces = 0;
        for (int done = 0; done <= STEP_LIMIT; done++) {
            int t = looked < tokenCount ? tokenRules[looked] : END;
            int chosen = builtActions[stackStates[top] * TERMINALS + t];
            if (chosen == NO_ACTION) {
                parsePlace = TOKEN_FACTOR * looked + terminalsWithAction(stackStates[top]);
                return ERROR;
            }
            if (chosen == START) {
                parseValue = stackValues[top];
                parsePlace = reduces;
                return OK;
            }
            if (done == STEP_LIMIT) {
                break;
            }
            if (chosen == SHIFT) {
                int number = numberOfToken(looked);
                top = push(top, t, number);
                looked++;
            } else {
                top = reduceBy(chosen, top);
                reduces++;
            }
        }
        parsePlace = looked;
        return ENDLESS;
    }

    private int push(int top, int symbol, int number) {
        stackStates[top + 1] = builtMoves[stackStates[top] * SYMBOL_SLOTS + symbol];
        stackValues[top + 1] = number;
        return top + 1;
    }

    private int reduceBy(int p, int top) {
        int cell = p * PRODUCTION_CELLS;
        int under = top - builtGrammar[cell + LENGTH];
        int number = valueOfReduce(p, under + 1);
        return push(under, builtGrammar[cell + LEFT], number);
    }

    private int valueOfReduce(int p, int first) {
        int cell = p * PRODUCTION_CELLS;
        int length = builtGrammar[cell + LENGTH];
        int constant = builtGrammar[cell + CONSTANT];
        int sum = 0;
        int product = 1;
        for (int i = 0; i < ITEM_STRIDE && i < length; i++) {
            sum += stackValues[first + i];
            product *= stackValues[first + i];
        }
        switch (builtGrammar[cell + OP]) {
            case 0: return constant + sum;
            case 1: return constant + product;
            case 2: return length == 0 ? constant : stackValues[first] * 2 - sum + constant;
            default: return length < 2 ? constant : stackValues[first + 1] + constant;
        }
    }

    private int terminalsWithAction(int s) {
        int found = 0;
        for (int t = 0; t < TERMINALS; t++) {
            if (builtActions[s * TERMINALS + t] != NO_ACTION) {
                found |= 1 << t;
            }
        }
        return found;
    }
}
