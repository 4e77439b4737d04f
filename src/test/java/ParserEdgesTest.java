/** A test of its own for each sentence of "Terms" on grammars, parser states, actions, parsing and values. */
public final class ParserEdgesTest extends Bench {
    public static void main(String[] args) {
        upToThreeSymbols();
        atMostEightProductions();
        closureOfAllProductions();
        statesForEachSymbol();
        noOtherStates();
        nullableWithoutSymbols();
        nullableIfAllSymbolsAre();
        nullableIsTheLeastSet();
        beginOfNonterminals();
        beginOfRows();
        endInTheFirstState();
        lookaheadsOfWhatBeginsBehind();
        lookaheadsOfNullableRests();
        lookaheadsWithoutOwnOnes();
        lookaheadsBehindTheSymbol();
        lookaheadsMeetInOneState();
        acceptWithEnd();
        leastProduction();
        startBeforeAll();
        eachFurtherOneIsAConflict();
        ranksAndGroupings();
        rankOfTheLastTerminal();
        productionWithoutTerminal();
        rankOfTheLeastProduction();
        groupedNeither();
        textThenEnd();
        reduceTakesStatesOff();
        noActionIsAnError();
        stepsUpTo150();
        oneStepMore();
        stackOf150();
        actionAtFirst();
        valueOfTheSum();
        valueOfTheProduct();
        valueOfTheDifference();
        valueOfTheSecond();
        valuesWrap();
        end();
    }

    // ---- grammars and states

    private static void upToThreeSymbols() {
        about("GRAMMAR: up to 3 terminals (0..3) and nonterminals on its right side");
        due("none", parserOf(makes(10)).built(2), 2);
        due("one", parserOf(makes(10, 3)).built(2), 3);
        due("two", parserOf(makes(10, 3, 0)).built(2), 4);
        due("three", parserOf(makes(10, 3, 0, 3)).built(2), 5);
        due("three nonterminals", parserOf(makes(10, 12, 12, 12)).built(2), 5);
    }

    private static void atMostEightProductions() {
        about("GRAMMAR: there are at most 8, numbered 0, 1, ..; one more says that START makes 10");
        ParserForge x = letters();
        for (int p = 0; p < 8; p++) {
            due("production " + p, x.produce(10, p / 4 * 3, p % 4, -1), p);
            due("its action", x.action(p, 3, 100 * p), true);
        }
        due("START has no action", x.action(8, 0, 0), false);
        x.build();
        for (int p = 0; p < 8; p++) {
            parsed(x, ParserForge.OK, 100 * p + p % 4, 1, p / 4 * 3, p % 4);
        }
        // What START makes is 10, whatever else there is.
        ParserForge y = parserOf(makes(11, 0), makes(12, 1));
        due("built(2) without 10", y.built(2), 2);
        parsed(y, ParserForge.ERROR, 0, 0, 0);
    }

    private static void closureOfAllProductions() {
        about("THE CLOSURE has with each item before a nonterminal also all productions of that one");
        // Each one is found behind the one that needs it.
        ParserForge x = parserOf(makes(12, 0), makes(11, 12), makes(10, 11));
        due("built(2)", x.built(2), 5);
        parsed(x, ParserForge.OK, 0, 3, 0);
        ParserForge y = parserOf(makes(10, 11), makes(11, 12), makes(12, 0), makes(12, 1), makes(12, 2), makes(12, 3));
        due("built(2) of four terminals", y.built(2), 8);
        parsed(y, ParserForge.OK, 3, 3, 3);
        // In the midst too, and of one that needs itself.
        ParserForge z = parserOf(makes(11, 11, 1), makes(11, 2), makes(10, 0, 11));
        parsed(z, ParserForge.OK, 4, 4, 0, 2, 1, 1);
    }

    private static void statesForEachSymbol() {
        about("PARSER STATES: from each state, for each symbol before which one of its items stands");
        ParserForge x = parserOf(makes(10, 0), makes(10, 1), makes(10, 2), makes(10, 3), makes(10, 11), makes(10, 12));
        due("built(2)", x.built(2), 8);
        for (int t = 0; t < 4; t++) {
            parsed(x, ParserForge.OK, t, 1, t);
        }
        // Sets that are equal are one state: behind 0 0 is behind 0.
        due("built(2) of a loop", parserOf(makes(10, 0, 10), makes(10, 1)).built(2), 5);
        // Productions that are equal are still two.
        due("built(2) of equal ones", parserOf(makes(10, 0), makes(10, 0)).built(2), 3);
    }

    private static void noOtherStates() {
        about("PARSER STATES: no others");
        due("START alone", parserOf().built(2), 2);
        due("what 10 does not need", parserOf(makes(10, 0), makes(11, 1, 2, 3), makes(12, 11, 11)).built(2), 3);
        due("what is never made", parserOf(makes(10, 11, 0)).built(2), 4);
    }

    // ---- nullable, begins

    /** What looks ahead when 10 makes 12 and the rest, and 12 makes the 3 that stands at the beginning. */
    private static void behind3(int want, int[] first, int[]... others) {
        ParserForge x = letters();
        grammar(x, makes(12, 3), first);
        for (int[] p : others) {
            x.produce(p[0], p[1], p[2], p[3]);
        }
        due("build()", x.build(), ParserForge.OK);
        parsed(x, ParserForge.ERROR, 0, 64 + want, 3, 3);
    }

    /** What looks ahead at the beginning, when 10 makes 12 11 0 and 12 makes nothing. */
    private static void before11(int want, int... of11) {
        ParserForge x = parserOf(makes(10, 12, 11, 0), makes(12), makes(11, of11));
        parsed(x, ParserForge.ERROR, 0, want, 3);
    }

    private static void nullableWithoutSymbols() {
        about("NULLABLE: or that has none");
        behind3(16, makes(10, 12, 11), makes(11));
        behind3(16 + 1, makes(10, 12, 11), makes(11, 0), makes(11));
        behind3(16 + 1, makes(10, 12, 11), makes(11), makes(11, 0));
        behind3(1, makes(10, 12, 11), makes(11, 0));
    }

    private static void nullableIfAllSymbolsAre() {
        about("NULLABLE is a nonterminal with a production of which all symbols are");
        before11(1);
        before11(1, 12);
        before11(1, 12, 12);
        before11(1, 12, 12, 12);
        before11(2, 12, 12, 1);
        before11(2, 12, 1, 12);
        before11(2, 1, 12, 12);
        before11(2, 1);
    }

    private static void nullableIsTheLeastSet() {
        about("NULLABLE, BEGINS: the least sets that are so");
        before11(0, 11);
        before11(0, 12, 12, 11);
        // 11 and 12 just make each other; with an end to that they are nullable.
        ParserForge x = parserOf(makes(10, 3), makes(10, 10, 11, 1), makes(11, 12), makes(12, 11));
        parsed(x, ParserForge.ERROR, 0, 64 + 16, 3, 3);
        x.produce(12, -1, -1, -1);
        x.build();
        parsed(x, ParserForge.ERROR, 0, 64 + 16 + 2, 3, 3);
    }

    private static void beginOfNonterminals() {
        about("BEGINS: those that begin a nonterminal are those that begin a right side of it");
        for (int t = 0; t < 3; t++) {
            behind3(1 << t, makes(10, 12, 11), makes(11, t));
            behind3(1 << t, makes(10, 12, 11), makes(11, t, 3, 3));
        }
        behind3(1 + 2 + 4, makes(10, 12, 11), makes(11, 0), makes(11, 1), makes(11, 2));
        behind3(0, makes(10, 12, 11));
        behind3(0, makes(10, 12, 11), makes(11, 11));
        behind3(2, makes(10, 12, 11), makes(11, 11, 0), makes(11, 1));
        // By three steps from one to the next, each found behind the one that needs it.
        ParserForge x = parserOf(makes(10, 3), makes(10, 10, 11), makes(11, 12), makes(12, 10, 0), makes(12, 2));
        parsed(x, ParserForge.ERROR, 0, 64 + 1 + 4 + 8 + 16, 3, 1);
    }

    private static void beginOfRows() {
        about("BEGINS: those of its first symbol, and if that is nullable those of the rest too");
        behind3(2, makes(10, 12, 1, 11), makes(11, 0));
        behind3(1, makes(10, 12, 11, 1), makes(11, 0));
        behind3(1 + 2, makes(10, 12, 11, 1), makes(11, 0), makes(11));
        behind3(2, makes(10, 12, 11, 1), makes(11));
        behind3(16 + 1, makes(10, 12, 11), makes(11, 11, 0), makes(11));
        behind3(16 + 1 + 2, makes(10, 12, 11), makes(11, 11, 11, 0), makes(11, 1), makes(11));
        behind3(16 + 1, makes(10, 12, 11, 11), makes(11, 0), makes(11));
        behind3(1, makes(10, 12, 11, 11), makes(11, 0));
    }

    // ---- lookaheads

    private static void endInTheFirstState() {
        about("LOOKAHEADS: START's production at its beginning has END in the first state");
        ParserForge x = parserOf(makes(10));
        parsed(x, ParserForge.OK, 0, 1);
        for (int t = 0; t < 4; t++) {
            parsed(x, ParserForge.ERROR, 0, 16, t);
        }
    }

    private static void lookaheadsOfWhatBeginsBehind() {
        about("LOOKAHEADS: each production of N has at its beginning all terminals that begin w");
        ParserForge x = parserOf(makes(10, 11, 2), makes(11, 0), makes(11, 1), makes(11));
        parsed(x, ParserForge.ERROR, 0, 1 + 2 + 4, 3);
        parsed(x, ParserForge.ERROR, 0, 64 + 4, 0, 3);
        parsed(x, ParserForge.ERROR, 0, 64 + 4, 1, 3);
        parsed(x, ParserForge.ERROR, 0, 64 + 16, 2, 3);
    }

    private static void lookaheadsOfNullableRests() {
        about("LOOKAHEADS: if all symbols of w are nullable (or there are none), the lookaheads of the item");
        behind3(16, makes(10, 12));
        behind3(16, makes(10, 12, 11, 11), makes(11));
        behind3(2, makes(10, 12, 11, 1), makes(11));
        // Those of the item, not those of END: 11 stands before 1 here.
        ParserForge x = parserOf(makes(10, 0, 11, 1), makes(11, 12), makes(12, 2));
        parsed(x, ParserForge.ERROR, 0, 64 * 2 + 2, 0, 2, 2);
        parsed(x, ParserForge.ERROR, 0, 64 * 2 + 2, 0, 2);
        parsed(x, ParserForge.OK, 3, 3, 0, 2, 1);
    }

    private static void lookaheadsWithoutOwnOnes() {
        about("LOOKAHEADS: all terminals that begin w, also of an item that has none itself");
        // Behind 11 must come a 12, which nothing makes; 11 makes 11 0 all the same.
        ParserForge x = parserOf(makes(10, 11, 12), makes(11, 11, 0), makes(11, 1));
        parsed(x, ParserForge.ERROR, 0, 64 + 1, 1, 1);
        parsed(x, ParserForge.ERROR, 0, 64 * 2 + 1, 1, 0, 1);
        parsed(x, ParserForge.ERROR, 0, 64 * 3 + 1, 1, 0, 0);
    }

    private static void lookaheadsBehindTheSymbol() {
        about("LOOKAHEADS: an item has behind this symbol the lookaheads that it had before");
        ParserForge x = parserOf(makes(10, 0, 11, 1), makes(11, 2, 12, 2), makes(12, 3));
        parsed(x, ParserForge.ERROR, 0, 64 * 4 + 2, 0, 2, 3, 2, 3);
        parsed(x, ParserForge.OK, 8, 3, 0, 2, 3, 2, 1);
    }

    private static void lookaheadsMeetInOneState() {
        about("LOOKAHEADS: each item in a state has a set of terminals");
        // The state behind 2 is one, whether 0 or 1 came before, so that it looks ahead at both.
        ParserForge x = parserOf(makes(10, 0, 11, 0), makes(10, 1, 11, 1), makes(11, 2));
        due("built(2)", x.built(2), 9);
        parsed(x, ParserForge.ERROR, 0, 64 * 2 + 1 + 2, 0, 2, 3);
        parsed(x, ParserForge.ERROR, 0, 64 * 2 + 1 + 2, 1, 2, 3);
        // Each state has its own otherwise: 0 ends 11 before 1 alone, behind 3 before 2 alone.
        ParserForge y = parserOf(makes(10, 11, 1), makes(10, 3, 11, 2), makes(11, 0), makes(10, 3, 0, 1));
        due("built(3)", y.built(3), 0);
        parsed(y, ParserForge.ERROR, 0, 64 + 2, 0, 3);
        parsed(y, ParserForge.ERROR, 0, 64 * 2 + 2 + 4, 3, 0, 3);
    }

    // ---- actions

    private static void acceptWithEnd() {
        about("ACTIONS: START's: ACCEPT, with END");
        ParserForge x = parserOf(makes(10, 0));
        parsed(x, ParserForge.OK, 0, 1, 0);
        // Behind 0 the reduce has END alone; START's end is not reached with another terminal.
        parsed(x, ParserForge.ERROR, 0, 64 + 16, 0, 0);
        ParserForge y = parserOf(makes(10, 10, 1), makes(10, 0));
        parsed(y, ParserForge.ERROR, 0, 64 + 2 + 16, 0, 0);
        parsed(y, ParserForge.ERROR, 0, 64 * 2 + 2 + 16, 0, 1, 2);
        parsed(y, ParserForge.OK, 2, 3, 0, 1, 1);
    }

    private static void leastProduction() {
        about("ACTIONS: if there are several productions, the least is taken");
        ParserForge x = letters();
        for (int p = 0; p < 8; p++) {
            x.produce(10, 0, -1, -1);
            x.action(p, 0, 10 + p);
        }
        x.build();
        parsed(x, ParserForge.OK, 10, 1, 0);
        ParserForge y = letters();
        grammar(y, makes(10, 11), makes(10, 12), makes(12, 0), makes(11, 0));
        y.action(2, 0, 20);
        y.action(3, 0, 30);
        y.build();
        parsed(y, ParserForge.OK, 20, 2, 0);
        // Just where both have the lookahead: 11 has 1 alone.
        grammar(y, makes(11, 0), makes(12, 0), makes(10, 11, 1), makes(10, 12));
        y.build();
        due("built(3)", y.built(3), 0);
        parsed(y, ParserForge.OK, 0, 2, 0);
    }

    private static void startBeforeAll() {
        about("ACTIONS: START's before all");
        ParserForge x = parserOf(makes(10, 10), makes(10, 0));
        due("built(3)", x.built(3), 1);
        parsed(x, ParserForge.OK, 0, 1, 0);
        ParserForge y = parserOf(makes(11, 10), makes(10, 11), makes(10, 0));
        due("built(3)", y.built(3), 1);
        parsed(y, ParserForge.OK, 0, 1, 0);
    }

    private static void eachFurtherOneIsAConflict() {
        about("ACTIONS: each further one is a CONFLICT");
        ParserForge x = letters();
        for (int p = 0; p < 8; p++) {
            x.produce(10, 0, -1, -1);
            x.build();
            due("built(3) of " + (p + 1), x.built(3), p);
        }
        ParserForge y = letters();
        for (int p = 0; p < 7; p++) {
            y.produce(10, 10, -1, -1);
        }
        y.produce(10, 0, -1, -1);
        y.build();
        due("built(3) of START's and 7", y.built(3), 7);
        // In each state and with each terminal: 11 ends with 1 and with END.
        ParserForge z = parserOf(makes(10, 11), makes(10, 11, 1), makes(11, 0), makes(11, 0), makes(11, 0));
        due("built(3) with two terminals", z.built(3), 4);
    }

    private static void ranksAndGroupings() {
        for (int i = 0; i < 6 * 6 * 9; i++) {
            int ofProduction = i % 6;
            int ofTerminal = i / 6 % 6;
            int grouping = i / 36 % 3;
            ParserForge x = withRanks(ofProduction, i / 108, ofTerminal, grouping);
            about("ACTIONS: P " + ofProduction + ", T " + ofTerminal + ", grouped " + grouping);
            boolean both = ofProduction > 0 && ofTerminal > 0;
            int conflicts = (ofProduction > 0 ? 0 : 1) + (both ? 0 : 2) + (ofTerminal > 0 ? 0 : 1);
            due("built(3)", x.built(3), conflicts);
            boolean equal = both && ofProduction == ofTerminal;
            if (equal && grouping == 2) {
                parsed(x, ParserForge.ERROR, 0, 64 * 3 + 16 + (i / 108 == 2 ? 0 : 1), 2, 0, 2, 1, 2);
            } else if (both && ofProduction > ofTerminal || equal && grouping == 0) {
                parsed(x, ParserForge.OK, (2 - 2) * 2, 5, 2, 0, 2, 1, 2);
            } else {
                parsed(x, ParserForge.OK, 2 - 2 * 2, 5, 2, 0, 2, 1, 2);
            }
        }
    }

    private static void rankOfTheLastTerminal() {
        about("ACTIONS: with P the RANK of the last terminal of the production");
        int[][] rows = {{5, 1, 119, 0}, {1, 5, 624, 0}, {5, 0, 119, 1}, {0, 5, 624, 0}, {5, 4, 624, 0}, {4, 2, 119, 0}};
        for (int[] row : rows) {
            ParserForge x = letters();
            grammar(x, makes(10, 0, 1, 10), makes(10, 10, 2, 10), makes(10, 3));
            x.action(0, 0, 100);
            x.action(1, 1, 0);
            x.rank(0, row[0], 0);
            x.rank(1, row[1], 0);
            x.rank(2, 3, 0);
            x.build();
            due("built(3)", x.built(3), row[3]);
            parsed(x, ParserForge.OK, row[2], 4, 0, 1, 3, 2, 3);
        }
    }

    private static void allRanked(ParserForge x, int rank) {
        for (int t = 0; t < 4; t++) {
            x.rank(t, rank, 0);
        }
        x.build();
    }

    private static void productionWithoutTerminal() {
        about("ACTIONS: else the SHIFT, and it is a CONFLICT (there is no last terminal)");
        ParserForge x = parserOf(makes(10, 10, 10), makes(10, 0), makes(10, 1));
        x.action(0, 2, 0);
        allRanked(x, 5);
        due("built(3) of nonterminals alone", x.built(3), 2);
        parsed(x, ParserForge.OK, 1 - (1 - 1), 5, 1, 1, 1);
        ParserForge y = parserOf(makes(10, 11, 0), makes(10, 0), makes(11));
        allRanked(y, 5);
        due("built(3) of no symbols", y.built(3), 1);
        parsed(y, ParserForge.OK, 0, 1, 0);
        parsed(y, ParserForge.ERROR, 0, 64 + 16, 0, 0);
    }

    private static void rankOfTheLeastProduction() {
        about("ACTIONS: of several productions, the rank of the least counts");
        int[] ranked = makes(10, 0, 11);
        int[] unranked = makes(12, 11);
        ParserForge x = letters();
        grammar(x, ranked, unranked, makes(10, 0, 12), makes(10, 0, 11, 1), makes(10, 10, 1), makes(11, 2));
        x.rank(0, 2, 0);
        x.rank(1, 1, 0);
        x.build();
        due("built(3), the reduce", x.built(3), 2);
        parsed(x, ParserForge.OK, 3, 3, 0, 2, 1);
        grammar(x, unranked, ranked, makes(10, 0, 12), makes(10, 0, 11, 1), makes(10, 10, 1), makes(11, 2));
        x.build();
        due("built(3), the shift", x.built(3), 3);
        parsed(x, ParserForge.OK, 3, 2, 0, 2, 1);
    }

    private static void groupedNeither() {
        about("ACTIONS: 2 neither (an error)");
        ParserForge x = withRanks(1, 2, 2, 0);
        due("built(3), no conflict", x.built(3), 0);
        parsed(x, ParserForge.ERROR, 0, 64 * 3 + 2 + 16, 2, 0, 2, 0, 2);
        parsed(x, ParserForge.OK, 2 - 2, 3, 2, 0, 2);
        parsed(x, ParserForge.OK, 2 - 2 * 2, 5, 2, 0, 2, 1, 2);
    }

    // ---- parsing

    private static void textThenEnd() {
        about("PARSING: the tokens of the text, then END, are looked at one after the other");
        ParserForge x = parserOf(makes(10, 0));
        parsed(x, ParserForge.ERROR, 0, 1);
        parsed(x, ParserForge.OK, 0, 1, 0);
        parsed(x, ParserForge.ERROR, 0, 64 + 16, 0, 0);
        x.skip(3, true);
        x.build();
        parsed(x, ParserForge.ERROR, 0, 1, 3, 3);
        parsed(x, ParserForge.OK, 0, 1, 3, 0, 3);
    }

    private static void reduceTakesStatesOff() {
        about("PARSING: REDUCE takes as many states off as the right side has symbols");
        ParserForge x = letters();
        grammar(x, makes(10, 10, 11), makes(10), makes(11, 0), makes(11, 1, 0), makes(11, 2, 0, 0), makes(11, 3, 12),
            makes(12));
        x.build();
        parsed(x, ParserForge.OK, 0, 1);
        parsed(x, ParserForge.OK, 0, 3, 0);
        parsed(x, ParserForge.OK, 1, 3, 1, 0);
        parsed(x, ParserForge.OK, 2, 3, 2, 0, 0);
        parsed(x, ParserForge.OK, 3, 4, 3);
        parsed(x, ParserForge.OK, 9, 13, 3, 0, 1, 0, 2, 0, 0, 3);
    }

    private static void noActionIsAnError() {
        about("PARSING: no action: an error there");
        ParserForge x = parserOf(makes(10, 0, 1, 2));
        parsed(x, ParserForge.ERROR, 0, 1);
        parsed(x, ParserForge.ERROR, 0, 1, 1);
        parsed(x, ParserForge.ERROR, 0, 64 + 2, 0);
        parsed(x, ParserForge.ERROR, 0, 64 + 2, 0, 0, 1, 2);
        parsed(x, ParserForge.ERROR, 0, 64 * 2 + 4, 0, 1, 1);
        parsed(x, ParserForge.ERROR, 0, 64 * 3 + 16, 0, 1, 2, 2);
        parsed(x, ParserForge.OK, 3, 1, 0, 1, 2);
    }

    /** Each 0 costs 9 steps and each 1 costs 7, there are 2 more, and 2 with a 2 .. 3 around all, and a reduce. */
    private static ParserForge counted() {
        return parserOf(makes(10, 12), makes(10, 11, 10, 11), makes(11, 12, 0, 12), makes(11, 12, 12, 12),
            makes(11, 1), makes(12), makes(10, 2, 10, 3));
    }

    private static int[] inside(int zeros, int ones, int... behind) {
        return join(new int[] {2}, times(zeros, 0), times(ones, 1), behind);
    }

    private static void stepsUpTo150() {
        about("PARSING: of these SHIFTs and REDUCEs 150 can be done");
        ParserForge x = counted();
        parsed(x, ParserForge.OK, 0, 10, 0);
        parsed(x, ParserForge.OK, 1, 8, 1);
        // 4 * 9 + 16 * 7 + 2: ACCEPT is none of these.
        parsed(x, ParserForge.OK, 16, 150 - 20, join(times(4, 0), times(16, 1)));
        // 1 + 13 * 9 + 4 * 7 + 2 + 2
        parsed(x, ParserForge.OK, 2 + 4 + 3, 150 - 19, inside(13, 4, 3));
        // 1 + 14 * 9 + 3 * 7 + 2: an error behind the last one that can be done is still an error.
        parsed(x, ParserForge.ERROR, 0, 64 * 18 + 8, inside(14, 3));
        parsed(x, ParserForge.ERROR, 0, 64 * 20 + 8, inside(7, 12));
    }

    private static void oneStepMore() {
        about("PARSING: where one more would be, the parse is ENDLESS");
        ParserForge x = counted();
        // 8 * 9 + 11 * 7 + 2
        parsed(x, ParserForge.ENDLESS, 0, 19, join(times(8, 0), times(11, 1)));
        // The SHIFT of the 3 would be one more; here it is the last one, and the REDUCE behind it one more.
        parsed(x, ParserForge.ENDLESS, 0, 18, inside(14, 3, 3));
        parsed(x, ParserForge.ENDLESS, 0, 20, inside(10, 8, 3));
        // Without an end at all: 11 becomes 12 becomes 11, and the stack stays as it is.
        ParserForge y = parserOf(makes(12, 11), makes(11, 12), makes(10, 0, 11), makes(11, 1));
        parsed(y, ParserForge.ENDLESS, 0, 2, 0, 1);
        parsed(y, ParserForge.ERROR, 0, 64 * 2 + 16, 0, 1, 1);
    }

    private static void stackOf150() {
        about("PARSING: the stack holds as many states as can be put on it");
        ParserForge x = parserOf(makes(11), makes(10, 11, 10), makes(10, 0, 10), makes(10));
        parsed(x, ParserForge.ENDLESS, 0, 0);
        parsed(x, ParserForge.ENDLESS, 0, 20, times(20, 0));
        ParserForge y = parserOf(makes(10, 0, 10), makes(10, 1));
        parsed(y, ParserForge.OK, 1, 20, join(times(19, 0), times(1, 1)));
    }

    // ---- values

    private static int valued(int op, int c, int... letters) {
        ParserForge x = letters();
        grammar(x, makes(10, letters));
        x.action(0, op, c);
        x.build();
        text(x, letters);
        due("parse()", x.parse(), ParserForge.OK);
        return x.value();
    }

    /** The same where other values were on the stack before, in the parse of three letters. */
    private static int valuedAgain(int op, int c, int... letters) {
        ParserForge x = letters();
        grammar(x, makes(10, letters), makes(10, 3, 3, 3));
        x.action(0, op, c);
        x.build();
        text(x, 3, 3, 3);
        due("parse() of three", x.parse(), ParserForge.OK);
        text(x, letters);
        due("parse() again", x.parse(), ParserForge.OK);
        return x.value();
    }

    private static void actionAtFirst() {
        about("VALUES: op and constant c (0 and 0 at first)");
        ParserForge x = parserOf(makes(10, 3, 2, 1));
        parsed(x, ParserForge.OK, 6, 1, 3, 2, 1);
        x.action(0, 3, 50);
        x.retract();
        x.produce(10, 3, 2, 1);
        x.build();
        parsed(x, ParserForge.OK, 6, 1, 3, 2, 1);
    }

    private static void valueOfTheSum() {
        about("VALUES: op 0 c + the sum of the values of its symbols");
        due("none", valued(0, 10), 10);
        due("one", valued(0, 10, 3), 13);
        due("two", valued(0, 10, 3, 1), 14);
        due("three", valued(0, 10, 3, 1, 2), 16);
        due("with another c", valued(0, -10, 3, 1, 2), -4);
    }

    private static void valueOfTheProduct() {
        about("VALUES: 1 c + their product (1 for none)");
        due("none", valued(1, 10), 11);
        due("one", valued(1, 10, 3), 13);
        due("two", valued(1, 10, 3, 2), 16);
        due("three", valued(1, 10, 3, 3, 2), 28);
        due("with a 0", valued(1, 10, 3, 0, 2), 10);
    }

    private static void valueOfTheDifference() {
        about("VALUES: 2 the first minus the others plus c (c for none)");
        due("none", valued(2, 10), 10);
        due("one", valued(2, 10, 3), 13);
        due("two", valued(2, 10, 1, 3), 8);
        due("three", valued(2, 10, 1, 3, 2), 6);
        due("none, after another parse", valuedAgain(2, 10), 10);
        due("with another c", valued(2, -10, 1, 3, 2), -14);
    }

    private static void valueOfTheSecond() {
        about("VALUES: 3 the second plus c (c if there is none)");
        due("none", valued(3, 10), 10);
        due("one", valued(3, 10, 3), 10);
        due("two", valued(3, 10, 1, 3), 13);
        due("three", valued(3, 10, 1, 3, 2), 13);
        due("none, after another parse", valuedAgain(3, 10), 10);
        due("one, after another parse", valuedAgain(3, 10, 2), 10);
    }

    private static void valuesWrap() {
        about("VALUES: all wrap");
        due("op 0 above", valued(0, HIGHEST, 1), LOWEST);
        due("op 0 far above", valued(0, HIGHEST, 3, 3, 3), LOWEST + 8);
        due("op 1 above", valued(1, HIGHEST), LOWEST);
        due("op 1 far above", valued(1, HIGHEST, 3, 3, 3), LOWEST + 26);
        due("op 2 below", valued(2, LOWEST, 0, 1), HIGHEST);
        due("op 2 above", valued(2, HIGHEST, 1), LOWEST);
        due("op 3 above", valued(3, HIGHEST, 0, 2), LOWEST + 1);
        // A token's number wraps, and what is made of it.
        ParserForge x = new ParserForge();
        terms(x, 0, 4, 4, 8, 5);
        x.produce(10, 0, -1, -1);
        x.action(0, 2, -1);
        x.build();
        parsed(x, ParserForge.OK, HIGHEST, 1, join(new int[] {2}, times(15, 0)));
        parsed(x, ParserForge.OK, -2, 1, times(20, 3));
        // Products wrap, and products of these.
        ParserForge y = parserOf(makes(10, 10, 10), makes(10, 3));
        y.action(0, 1, 0);
        y.action(1, 0, 65533);
        y.build();
        parsed(y, ParserForge.OK, 0, 3, 3, 3);
        y.action(1, 0, 65532);
        y.build();
        parsed(y, ParserForge.OK, (int) (65535L * 65535L), 3, 3, 3);
        parsed(y, ParserForge.OK, (int) (65535L * (int) (65535L * 65535L)), 5, 3, 3, 3);
    }
}
