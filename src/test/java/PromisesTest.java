/** For each promise of the document: ordinary inputs, the edges that it names, and wrong inputs. */
public final class PromisesTest extends Bench {
    public static void main(String[] args) {
        newObject();
        rule();
        clear();
        skip();
        produce();
        retract();
        rank();
        action();
        buildKeepsWhatItWasMadeOf();
        buildAnswersRules();
        buildAnswersMany();
        builtSetsAndClasses();
        builtStates();
        builtConflicts();
        put();
        wipe();
        tokens();
        token();
        parseAnswers();
        parseLooksAhead();
        parseByRank();
        parseStepLimit();
        value();
        place();
        end();
    }

    private static void newObject() {
        about("promise 1");
        ParserForge x = new ParserForge();
        counts(x, -1, -1, -1, -1);
        due("tokens()", x.tokens(), -1);
        due("token(0, 0)", x.token(0, 0), -1);
        due("value()", x.value(), 0);
        due("place()", x.place(), -1);
        due("parse()", x.parse(), ParserForge.UNBUILT);
        due("place() after UNBUILT", x.place(), -1);
        due("wipe()", x.wipe(), 0);
        due("retract()", x.retract(), false);
        for (int r = 0; r < 4; r++) {
            due("clear", x.clear(r), 0);
        }
        due("build() of nothing", x.build(), ParserForge.OK);
        counts(x, 0, 0, 2, 0);
        due("tokens() of no text", x.tokens(), 0);
        parsed(x, ParserForge.ERROR, 0, 0);
        ParserForge y = letters();
        y.produce(10, 10, 0, 10);
        y.produce(10, 1, -1, -1);
        y.build();
        due("a conflict, as ranks are 0", y.built(3), 1);
        text(y, 0, 1, 2, 3);
        due("nothing is skipped", y.tokens(), 4);
        y.rank(0, 1, 0);
        ParserForge z = new ParserForge();
        due("objects share nothing", z.clear(0) + z.wipe() + z.built(0), -1);
        due("OK", ParserForge.OK, 0);
        due("RULES", ParserForge.RULES, 1);
        due("MANY", ParserForge.MANY, 2);
        due("UNBUILT", ParserForge.UNBUILT, 3);
        due("STUCK", ParserForge.STUCK, 4);
        due("ERROR", ParserForge.ERROR, 5);
        due("ENDLESS", ParserForge.ENDLESS, 6);
    }

    private static void rule() {
        about("promise 2");
        ParserForge x = new ParserForge();
        for (int term = 0; term < 8; term++) {
            due("rule(3, " + term + ")", x.rule(3, term), true);
        }
        due("a ninth term", x.rule(3, 0), false);
        due("rule(0, 9)", x.rule(0, 9), true);
        due("rule(0, 10)", x.rule(0, 10), false);
        due("rule(0, -1)", x.rule(0, -1), false);
        due("rule(4, 0)", x.rule(4, 0), false);
        due("rule(-1, 0)", x.rule(-1, 0), false);
        due("rule(lowest, highest)", x.rule(LOWEST, HIGHEST), false);
        due("rule(highest, lowest)", x.rule(HIGHEST, LOWEST), false);
        due("rule 3 is full", x.clear(3), 8);
        due("rule 0 has one", x.clear(0), 1);
        due("rule 1 has none", x.clear(1), 0);
    }

    private static void clear() {
        about("promise 3");
        ParserForge x = letters();
        due("clear(-1)", x.clear(-1), -1);
        due("clear(4)", x.clear(4), -1);
        due("clear(lowest)", x.clear(LOWEST), -1);
        due("clear(highest)", x.clear(HIGHEST), -1);
        x.rule(1, 8);
        x.skip(1, true);
        due("clear(1)", x.clear(1), 2);
        due("clear(1) again", x.clear(1), 0);
        due("the others stay", x.clear(2), 1);
        x.rule(1, 1);
        x.build();
        text(x, 1, 0);
        due("a cleared rule is still skipped", x.tokens(), 1);
        due("its old terms are gone", x.built(0), 3);
    }

    private static void skip() {
        about("promise 4");
        ParserForge x = letters();
        due("skip(2, true)", x.skip(2, true), true);
        due("skip(3, true)", x.skip(3, true), true);
        due("skip(3, false)", x.skip(3, false), true);
        due("skip(4, true)", x.skip(4, true), false);
        due("skip(-1, false)", x.skip(-1, false), false);
        due("skip(lowest, true)", x.skip(LOWEST, true), false);
        due("skip(highest, true)", x.skip(HIGHEST, true), false);
        x.build();
        text(x, 2, 3, 2, 2, 0);
        due("tokens()", x.tokens(), 2);
        due("token(0, 1)", x.token(0, 1), 1);
        due("token(1, 1)", x.token(1, 1), 4);
        x.skip(2, false);
        due("the skip was built", x.tokens(), 2);
        x.build();
        due("and is not any more", x.tokens(), 5);
        x.skip(0, true);
        x.build();
        due("the last one is left out", x.tokens(), 4);
    }

    private static void produce() {
        about("promise 5");
        ParserForge x = new ParserForge();
        int[][] bad = {
            {9, 0, 0, 0}, {13, 0, 0, 0}, {0, 0, 0, 0}, {-1, -1, -1, -1}, {LOWEST, 0, 0, 0}, {HIGHEST, 0, 0, 0},
            {10, 4, -1, -1}, {10, 0, 9, -1}, {10, 0, 0, 13}, {10, -2, -1, -1}, {10, 0, -2, -1}, {10, 0, 0, -2},
            {10, LOWEST, -1, -1}, {10, 0, HIGHEST, -1}, {10, -1, 0, -1}, {10, -1, -1, 0}, {10, 0, -1, 0},
            {10, -1, 0, 0}, {10, -1, -1, 4},
        };
        for (int[] p : bad) {
            due("a wrong production", x.produce(p[0], p[1], p[2], p[3]), -1);
        }
        due("nothing was appended", x.retract(), false);
        due("none", x.produce(10, -1, -1, -1), 0);
        due("one", x.produce(11, 0, -1, -1), 1);
        due("two", x.produce(12, 3, 12, -1), 2);
        due("three", x.produce(10, 10, 11, 12), 3);
        for (int p = 4; p < 8; p++) {
            due("production " + p, x.produce(10, 1, 2, 3), p);
        }
        due("a ninth", x.produce(10, 1, 2, 3), -1);
        ParserForge y = letters();
        y.produce(10, 0, 1, 2);
        y.build();
        parsed(y, ParserForge.OK, 3, 1, 0, 1, 2);
        parsed(y, ParserForge.ERROR, 0, 2 * 64 + 4, 0, 1);
    }

    private static void retract() {
        about("promise 6");
        ParserForge x = letters();
        x.produce(10, 0, -1, -1);
        x.produce(10, 1, -1, -1);
        x.action(1, 0, 7);
        due("retract()", x.retract(), true);
        due("action of what is gone", x.action(1, 0, 1), false);
        x.build();
        parsed(x, ParserForge.ERROR, 0, 1, 1);
        due("the number is free again", x.produce(10, 2, -1, -1), 1);
        x.build();
        parsed(x, ParserForge.OK, 2, 1, 2);
        due("retract() 1", x.retract(), true);
        due("retract() 0", x.retract(), true);
        due("retract() of none", x.retract(), false);
        due("the first number", x.produce(10, 3, -1, -1), 0);
    }

    private static void rank() {
        about("promise 7");
        ParserForge x = letters();
        x.produce(10, 10, 0, 10);
        x.produce(10, 1, -1, -1);
        due("rank(0, 5, 1)", x.rank(0, 5, 1), true);
        int[][] bad = {
            {0, 6, 0}, {0, -1, 0}, {0, 0, 3}, {0, 0, -1}, {4, 0, 0}, {-1, 0, 0}, {0, LOWEST, 0}, {0, HIGHEST, 0},
            {0, 1, LOWEST}, {0, 1, HIGHEST}, {LOWEST, 1, 1}, {HIGHEST, 1, 1},
        };
        for (int[] r : bad) {
            due("a wrong rank", x.rank(r[0], r[1], r[2]), false);
        }
        x.action(0, 2, 0);
        x.build();
        due("the wrong ones changed nothing", x.built(3), 0);
        parsed(x, ParserForge.OK, 1, 5, 1, 0, 1, 0, 1);
        due("rank(0, 0, 0)", x.rank(0, 0, 0), true);
        x.build();
        due("back at 0", x.built(3), 1);
        due("rank(3, 0, 2)", x.rank(3, 0, 2), true);
    }

    private static void action() {
        about("promise 8");
        ParserForge x = letters();
        due("without productions", x.action(0, 0, 0), false);
        x.produce(10, 3, 2, 1);
        due("action(0, 3, lowest)", x.action(0, 3, LOWEST), true);
        int[][] bad = {{1, 0, 0}, {-1, 0, 0}, {8, 0, 0}, {0, 4, 0}, {0, -1, 0}, {LOWEST, 0, 0}, {HIGHEST, 0, 0},
            {0, LOWEST, 0}, {0, HIGHEST, 0}};
        for (int[] a : bad) {
            due("a wrong action", x.action(a[0], a[1], a[2]), false);
        }
        x.build();
        parsed(x, ParserForge.OK, LOWEST + 2, 1, 3, 2, 1);
        due("action(0, 0, 0)", x.action(0, 0, 0), true);
        parsed(x, ParserForge.OK, LOWEST + 2, 1, 3, 2, 1);
        x.build();
        parsed(x, ParserForge.OK, 6, 1, 3, 2, 1);
    }

    private static void buildKeepsWhatItWasMadeOf() {
        about("promise 9");
        ParserForge x = letters();
        x.produce(10, 10, 0, 10);
        x.produce(10, 1, -1, -1);
        x.rank(0, 1, 0);
        x.action(0, 2, 0);
        due("build()", x.build(), ParserForge.OK);
        counts(x, 4, 5, 5, 0);
        x.clear(0);
        x.rule(1, 8);
        x.skip(1, true);
        x.produce(11, 3, -1, -1);
        x.produce(10, 11, 11, -1);
        x.rank(0, 1, 2);
        x.action(1, 0, 5);
        counts(x, 4, 5, 5, 0);
        parsed(x, ParserForge.OK, 1 - 1, 3, 1, 0, 1);
        parsed(x, ParserForge.OK, 1 - 1 - 1, 5, 1, 0, 1, 0, 1);
        while (x.retract()) {
            counts(x, 4, 5, 5, 0);
        }
        parsed(x, ParserForge.OK, 1 - 1 - 1, 5, 1, 0, 1, 0, 1);
        parsed(x, ParserForge.ERROR, 0, 64 + 17, 1, 1);
        due("build() anew", x.build(), ParserForge.OK);
        counts(x, 3, 4, 2, 0);
        parsed(x, ParserForge.ERROR, 0, 0, 1, 1);
        due("rule 1 is skipped", x.tokens(), 0);
    }

    private static void buildAnswersRules() {
        about("promise 9, RULES");
        int[][] bad = {{5}, {6}, {7}, {8}, {9}, {0, 5}, {0, 6}, {0, 1}, {0, 5, 1}, {0, 1, 5, 5}, {7, 0}, {0, 7, 6},
            {0, 1, 2, 5}, {0, 0, 0, 0, 0, 0, 0, 0}, {4, 4, 4, 4, 4, 5, 5, 5}};
        ParserForge x = letters();
        x.produce(10, 0, -1, -1);
        x.build();
        x.produce(10, 1, -1, -1);
        for (int r = 0; r < 4; r++) {
            for (int[] terms : bad) {
                terms(x, r, terms);
                due("build()", x.build(), ParserForge.RULES);
            }
            terms(x, r, r);
        }
        counts(x, 4, 5, 3, 0);
        parsed(x, ParserForge.ERROR, 0, 1, 1);
        terms(x, 0, 0, 1, 2, 3, 5, 6, 5, 7);
        due("build() of a full rule", x.build(), ParserForge.OK);
        parsed(x, ParserForge.OK, 1, 1, 1);
        ParserForge y = new ParserForge();
        terms(y, 0, 0, 1);
        due("RULES at first", y.build(), ParserForge.RULES);
        counts(y, -1, -1, -1, -1);
        due("still unbuilt", y.parse(), ParserForge.UNBUILT);
        statesOf41(y);
        due("RULES before MANY", y.build(), ParserForge.RULES);
        y.clear(0);
        due("MANY", y.build(), ParserForge.MANY);
        due("still unbuilt after MANY", y.tokens(), -1);
    }

    private static void buildAnswersMany() {
        about("promise 9, MANY");
        ParserForge x = letters();
        statesOf41(x);
        due("41 states", x.build(), ParserForge.MANY);
        due("nothing is built", x.built(2), -1);
        statesOf40(x);
        due("40 states", x.build(), ParserForge.OK);
        due("built(2)", x.built(2), 40);
        setsOf61(x);
        due("61 sets", x.build(), ParserForge.MANY);
        due("what was built stays", x.built(0), 4);
        text(x, 0, 1, 2, 3);
        due("its scanner stays", x.tokens(), 4);
        statesOf41(x);
        due("both", x.build(), ParserForge.MANY);
        statesOf40(x);
        setsOf60(x);
        due("60 sets", x.build(), ParserForge.OK);
        due("built(0)", x.built(0), 60);
        due("built(1)", x.built(1), 50);
        grammar(x);
        due("smaller again", x.build(), ParserForge.OK);
        due("built(2) of START alone", x.built(2), 2);
        letters(x);
        statesOf41(x);
        due("41 states after all", x.build(), ParserForge.MANY);
        counts(x, 60, 50, 2, 0);
    }

    private static void scanner(int sets, int classes, int[]... rules) {
        ParserForge x = new ParserForge();
        for (int r = 0; r < rules.length; r++) {
            terms(x, r, rules[r]);
        }
        due("build()", x.build(), ParserForge.OK);
        due("built(0)", x.built(0), sets);
        due("built(1)", x.built(1), classes);
    }

    private static void builtSetsAndClasses() {
        about("promise 10, sets and classes");
        scanner(0, 0);
        scanner(1, 2, new int[] {0});
        scanner(1, 2, new int[] {4});
        scanner(1, 2, new int[] {0, 7});
        scanner(1, 2, new int[] {0, 8});
        scanner(1, 2, new int[] {0, 9});
        // Letter 0 or 1: two sets that nothing tells apart.
        scanner(2, 2, new int[] {0, 1, 6});
        // The empty text is in the class of the texts that end with no 0.
        scanner(2, 2, new int[] {4, 7, 0, 5});
        // Both ways lead to the same end, but the least rule differs.
        scanner(2, 3, new int[] {0}, new int[] {1});
        // One set of two places; rule 1 never is the least.
        scanner(1, 2, new int[] {0}, new int[] {0});
        scanner(2, 3, new int[] {}, new int[] {}, new int[] {0}, new int[] {4});
        // What a rule stands for without a letter makes no match.
        scanner(2, 3, new int[] {0, 1, 5, 7});
        scanner(2, 3, new int[] {0, 1, 5, 8});
        scanner(2, 3, new int[] {0, 9, 1, 9, 5});
        ParserForge x = letters();
        x.build();
        due("built(4)", x.built(4), -1);
        due("built(-1)", x.built(-1), -1);
        due("built(lowest)", x.built(LOWEST), -1);
        due("built(highest)", x.built(HIGHEST), -1);
    }

    private static void parser(int states, int conflicts, int[]... productions) {
        ParserForge x = letters();
        grammar(x, productions);
        due("build()", x.build(), ParserForge.OK);
        due("built(2)", x.built(2), states);
        due("built(3)", x.built(3), conflicts);
    }

    private static void builtStates() {
        about("promise 10, states");
        parser(2, 0);
        parser(2, 0, makes(10));
        parser(3, 0, makes(10, 0));
        parser(5, 0, makes(10, 0, 0, 0));
        // Productions of a nonterminal that 10 does not need add no state.
        parser(3, 0, makes(10, 0), makes(11, 1, 1, 1));
        // A nonterminal without productions still leads somewhere.
        parser(3, 0, makes(10, 11));
        parser(7, 0, makes(10, 11, 11), makes(11, 0, 11), makes(11, 1));
    }

    private static void builtConflicts() {
        about("promise 10, conflicts");
        // Two productions of the same form: each state that ends them has one conflict for END.
        parser(3, 1, makes(10, 0), makes(10, 0));
        parser(3, 3, makes(10, 0), makes(10, 0), makes(10, 0), makes(10, 0));
        // START's end and 10's own end, with END.
        parser(2, 1, makes(10, 10));
        parser(5, 1, makes(10, 10, 0, 10), makes(10, 1));
        // A state before 0 with 3 productions to reduce there: 2 conflicts among these, 1 with the shift.
        ParserForge x = letters();
        grammar(x, makes(10, 11, 0), makes(10, 1, 0, 0), makes(11, 1), makes(11, 1), makes(11, 1));
        x.build();
        due("several", x.built(3), 3);
        x.rank(0, 1, 0);
        x.build();
        due("the terminal alone has a rank", x.built(3), 3);
        x.rank(1, 1, 0);
        x.build();
        due("the ranks settle the shift alone", x.built(3), 2);
        x.rank(0, 0, 0);
        x.build();
        due("the production alone has a rank", x.built(3), 3);
        // A production without a terminal has no rank.
        ParserForge y = letters();
        grammar(y, makes(10, 11, 0), makes(10, 0), makes(11));
        for (int t = 0; t < 4; t++) {
            y.rank(t, 3, 0);
        }
        y.build();
        due("an empty production", y.built(3), 1);
        parsed(y, ParserForge.OK, 0, 1, 0);
    }

    private static void put() {
        about("promise 11");
        ParserForge x = new ParserForge();
        due("put(-1)", x.put(-1), false);
        due("put(4)", x.put(4), false);
        due("put(lowest)", x.put(LOWEST), false);
        due("put(highest)", x.put(HIGHEST), false);
        for (int i = 0; i < 20; i++) {
            due("put", x.put(i % 4), true);
        }
        due("a letter too many", x.put(0), false);
        due("wipe()", x.wipe(), 20);
        due("room again", x.put(3), true);
    }

    private static void wipe() {
        about("promise 12");
        ParserForge x = letters();
        x.build();
        text(x, 1, 2, 3);
        due("wipe()", x.wipe(), 3);
        due("wipe() again", x.wipe(), 0);
        due("tokens()", x.tokens(), 0);
        x.put(2);
        due("token(0, 0)", x.token(0, 0), 2);
        due("token(1, 0)", x.token(1, 0), -1);
    }

    private static void tokens() {
        about("promise 13");
        ParserForge x = new ParserForge();
        terms(x, 0, 0, 1, 5);
        terms(x, 1, 4);
        terms(x, 2, 0, 0, 5, 8);
        text(x, 0, 0, 0, 1);
        due("unbuilt", x.tokens(), -1);
        x.build();
        due("00 and 01", x.tokens(), 2);
        due("rule", x.token(0, 0), 2);
        due("rule", x.token(1, 0), 0);
        text(x, 0, 0, 0, 2);
        due("00, 0 and 2", x.tokens(), 3);
        terms(x, 1, 1, 2, 6);
        x.build();
        due("up to where it is stuck", x.tokens(), 1);
        x.skip(2, true);
        x.build();
        due("without the skipped one", x.tokens(), 0);
        text(x, 0, 0, 1, 2, 0, 1, 3, 1);
        due("stuck behind some", x.tokens(), 3);
        // The longest part is found behind texts that no rule matches.
        ParserForge y = new ParserForge();
        terms(y, 0, 0);
        terms(y, 1, 0, 1, 5, 2, 5, 3, 5);
        terms(y, 2, 1, 8);
        y.build();
        text(y, 0, 1, 2, 3, 0, 1, 1);
        due("back to the last match", y.tokens(), 3);
        due("ends", y.token(0, 2) * 100 + y.token(1, 2) * 10 + y.token(2, 2), 457);
        // The least rule is taken, and none matches a part without letters.
        ParserForge z = new ParserForge();
        terms(z, 1, 4, 7);
        terms(z, 3, 4);
        z.build();
        due("no letters", z.tokens(), 0);
        text(z, 0, 1, 2, 3);
        due("one", z.tokens(), 1);
        due("rule", z.token(0, 0), 1);
        terms(z, 1, 2, 7);
        z.build();
        due("four", z.tokens(), 4);
        due("rule of 2", z.token(2, 0), 1);
        terms(z, 1, 0, 7, 1, 6, 2, 5);
        terms(z, 3);
        z.build();
        text(z, 2, 0, 0, 2, 1, 2, 0, 1, 2);
        due("none, some or one, then 2", z.tokens(), 3);
        terms(z, 1, 2, 7);
        terms(z, 3, 4);
        z.build();
        text(z, 0, 1, 2, 3);
        due("rule of 3", z.token(3, 0), 3);
    }

    private static void token() {
        about("promise 14");
        ParserForge x = new ParserForge();
        terms(x, 2, 3, 8);
        terms(x, 1, 0, 8);
        x.skip(1, true);
        text(x, 3, 3, 0, 3, 1);
        due("unbuilt", x.token(0, 0), -1);
        x.build();
        int[] want = {2, 0, 2, 15, 2, 3, 4, 3};
        for (int i = 0; i < 8; i++) {
            due("token(" + i / 4 + ", " + i % 4 + ")", x.token(i / 4, i % 4), want[i]);
        }
        for (int what : new int[] {-1, 4, LOWEST, HIGHEST}) {
            due("token(0, " + what + ")", x.token(0, what), -1);
        }
        for (int k : new int[] {-1, 2, 20, LOWEST, HIGHEST}) {
            due("token(" + k + ", 0)", x.token(k, 0), -1);
        }
        x.clear(2);
        due("by what was built", x.token(1, 1), 3);
        ParserForge y = new ParserForge();
        terms(y, 0, 4, 8);
        y.build();
        text(y, 1, 2, 3, 3, 3, 3, 3, 3, 3, 3, 3, 3, 3, 3, 3, 3, 3, 3, 3, 3);
        due("16 digits are kept", y.token(0, 3), -1);
        text(y, 2, 0, 0, 0, 0, 0, 0, 0, 0, 0, 0, 0, 0, 0, 0, 1);
        due("the sign's digit", y.token(0, 3), LOWEST + 1);
        due("its end", y.token(0, 2), 16);
    }

    private static void parseAnswers() {
        about("promise 15");
        ParserForge x = letters();
        x.clear(3);
        x.skip(2, true);
        x.produce(10, 0, 10, 1);
        x.produce(10, -1, -1, -1);
        text(x, 0, 1);
        due("parse()", x.parse(), ParserForge.UNBUILT);
        x.build();
        parsed(x, ParserForge.OK, 0, 1);
        parsed(x, ParserForge.OK, 2, 3, 0, 0, 1, 1);
        parsed(x, ParserForge.OK, 1, 2, 2, 0, 2, 2, 1, 2);
        parsed(x, ParserForge.ERROR, 0, 64 * 1 + 3, 0);
        parsed(x, ParserForge.ERROR, 0, 64 * 2 + 16, 0, 1, 1);
        parsed(x, ParserForge.STUCK, 0, 0, 3);
        // The scan is looked at first, though token 0 is an error already.
        parsed(x, ParserForge.STUCK, 0, 2, 1, 1, 3, 0);
        parsed(x, ParserForge.OK, 1, 2, 0, 1);
        // Before 1 the least production makes 12 of nothing, again and again.
        ParserForge y = letters();
        grammar(y, makes(10, 12, 10), makes(10, 11, 1), makes(12), makes(11));
        y.build();
        parsed(y, ParserForge.ENDLESS, 0, 0, 1);
        parsed(y, ParserForge.ERROR, 0, 2);
    }

    private static void parseLooksAhead() {
        about("promise 15, lookaheads");
        // The terminals that follow 12 anywhere have 0; its lookaheads where it is reduced behind 10's beginning don't.
        ParserForge x = letters();
        grammar(x, makes(10, 11, 0, 12), makes(10, 12), makes(11, 1, 12), makes(11, 2), makes(12, 11));
        x.build();
        due("no conflict", x.built(3), 0);
        parsed(x, ParserForge.OK, 6, 8, 1, 2, 0, 1, 2);
        // States that differ in lookaheads alone are one: the two ways to 2 meet, so that 2 conflicts are there.
        ParserForge y = letters();
        grammar(y, makes(10, 0, 11, 0), makes(10, 1, 11, 1), makes(10, 0, 12, 1), makes(10, 1, 12, 0), makes(11, 2),
            makes(12, 2));
        y.build();
        due("merged", y.built(3), 2);
        // Behind 11 comes 12, which may be empty: both what begins it and what follows it look ahead.
        ParserForge z = letters();
        grammar(z, makes(10, 11, 12, 0), makes(11, 3), makes(11), makes(12, 2), makes(12));
        z.build();
        due("no conflict", z.built(3), 0);
        parsed(z, ParserForge.OK, 0, 3, 0);
        parsed(z, ParserForge.OK, 5, 3, 3, 2, 0);
        parsed(z, ParserForge.ERROR, 0, 64 + 5, 3, 1);
        // 12 stands for nothing at all and no terminal begins it, so that 11 never sees its end.
        ParserForge w = letters();
        grammar(w, makes(10, 11, 12), makes(11, 0), makes(12, 12));
        w.build();
        parsed(w, ParserForge.ERROR, 0, 64, 0);
        // A conflict of productions goes to the least one.
        ParserForge v = letters();
        grammar(v, makes(10, 12), makes(10, 11), makes(11, 0), makes(12, 0));
        v.action(2, 0, 20);
        v.action(3, 0, 30);
        v.build();
        parsed(v, ParserForge.OK, 20, 2, 0);
        // And to START's before all.
        ParserForge u = letters();
        grammar(u, makes(10, 10), makes(10, 0));
        u.build();
        parsed(u, ParserForge.OK, 0, 1, 0);
    }

    private static ParserForge minusAndPower(int rank0, int grouping0, int rank1, int grouping1) {
        ParserForge x = letters();
        grammar(x, makes(10, 10, 0, 10), makes(10, 10, 1, 10), makes(10, 2));
        x.action(0, 2, 0);
        x.action(1, 1, 0);
        x.rank(0, rank0, grouping0);
        x.rank(1, rank1, grouping1);
        x.build();
        return x;
    }

    private static void parseByRank() {
        about("promise 15, ranks");
        // Letter 0 counts as a value too: a - b is a - 0 - b; a * b is a * 1 * b.
        ParserForge x = minusAndPower(1, 0, 2, 0);
        due("no conflict", x.built(3), 0);
        parsed(x, ParserForge.OK, 2 - 4, 5, 2, 0, 2, 1, 2);
        parsed(x, ParserForge.OK, 4 - 2, 5, 2, 1, 2, 0, 2);
        parsed(x, ParserForge.OK, -2, 5, 2, 0, 2, 0, 2);
        x = minusAndPower(2, 1, 1, 1);
        parsed(x, ParserForge.OK, 0, 5, 2, 0, 2, 1, 2);
        parsed(x, ParserForge.OK, 0, 5, 2, 1, 2, 0, 2);
        parsed(x, ParserForge.OK, 2, 5, 2, 0, 2, 0, 2);
        x = minusAndPower(5, 2, 5, 0);
        due("no conflict", x.built(3), 0);
        parsed(x, ParserForge.ERROR, 0, 64 * 3 + 16 + 2, 2, 0, 2, 0, 2);
        parsed(x, ParserForge.ERROR, 0, 64 * 3 + 16 + 2, 2, 1, 2, 0, 2);
        parsed(x, ParserForge.OK, 0, 5, 2, 0, 2, 1, 2);
        x = minusAndPower(0, 0, 1, 0);
        due("three conflicts", x.built(3), 3);
        parsed(x, ParserForge.OK, 2, 5, 2, 0, 2, 0, 2);
        // The last terminal of the production counts, not the first one, nor one behind it.
        ParserForge y = letters();
        grammar(y, makes(10, 0, 10), makes(10, 10, 1, 10), makes(10, 2), makes(10, 0, 1, 10));
        y.rank(0, 3, 0);
        y.rank(1, 2, 1);
        y.action(0, 2, 5);
        y.action(1, 1, 0);
        y.build();
        due("no conflict", y.built(3), 0);
        parsed(y, ParserForge.OK, 6, 4, 0, 2, 1, 2);
        parsed(y, ParserForge.OK, 5, 4, 0, 1, 2, 1, 2);
    }

    private static void parseStepLimit() {
        about("promise 15, 150 steps");
        // Each 0 costs 9 steps and each 1 costs 7, and there are 2 more.
        ParserForge x = letters();
        grammar(x, makes(10, 12), makes(10, 11, 10, 11), makes(11, 12, 0, 12), makes(11, 12, 12, 12), makes(11, 1),
            makes(12));
        x.build();
        parsed(x, ParserForge.OK, 0, 10, 0);
        parsed(x, ParserForge.OK, 1, 8, 1);
        parsed(x, ParserForge.OK, 16, 130, 0, 0, 0, 0, 1, 1, 1, 1, 1, 1, 1, 1, 1, 1, 1, 1, 1, 1, 1, 1);
        parsed(x, ParserForge.ENDLESS, 0, 19, 0, 0, 0, 0, 0, 0, 0, 0, 1, 1, 1, 1, 1, 1, 1, 1, 1, 1, 1);
        // Where just the 3 that belongs to a 2 is missing: an error behind the 150th step is still an error.
        x.produce(10, 2, 10, 3);
        x.build();
        parsed(x, ParserForge.ERROR, 0, 64 * 20 + 8, 2, 0, 0, 0, 0, 0, 0, 0, 1, 1, 1, 1, 1, 1, 1, 1, 1, 1, 1, 1);
        parsed(x, ParserForge.ENDLESS, 0, 19, 2, 0, 0, 0, 0, 0, 0, 0, 0, 0, 0, 0, 1, 1, 1, 1, 1, 1, 1);
    }

    private static int valued(int op, int c, int... letters) {
        ParserForge x = letters();
        int[] right = {-1, -1, -1};
        System.arraycopy(letters, 0, right, 0, letters.length);
        x.produce(10, right[0], right[1], right[2]);
        x.action(0, op, c);
        x.build();
        text(x, letters);
        due("parse()", x.parse(), ParserForge.OK);
        return x.value();
    }

    private static void value() {
        about("promise 16");
        due("0, three", valued(0, 10, 1, 2, 3), 16);
        due("0, none", valued(0, -4), -4);
        due("1, three", valued(1, 10, 3, 2, 3), 28);
        due("1, one", valued(1, 10, 3), 13);
        due("1, none", valued(1, 10), 11);
        due("2, three", valued(2, 10, 1, 2, 3), 6);
        due("2, two", valued(2, 0, 1, 3), -2);
        due("2, one", valued(2, 10, 3), 13);
        due("2, none", valued(2, 10), 10);
        due("3, three", valued(3, 10, 1, 2, 3), 12);
        due("3, two", valued(3, 10, 1, 3), 13);
        due("3, one", valued(3, 10, 3), 10);
        due("3, none", valued(3, 10), 10);
        due("0 wraps", valued(0, HIGHEST, 1), LOWEST);
        due("2 wraps", valued(2, LOWEST, 0, 1), HIGHEST);
        due("3 wraps", valued(3, HIGHEST, 0, 2), LOWEST + 1);
        ParserForge x = new ParserForge();
        terms(x, 0, 4, 8);
        x.produce(10, 0, -1, -1);
        x.action(0, 1, 0);
        x.build();
        text(x, 0, 2, 3, 3, 3, 3, 3, 3, 3, 3, 3, 3, 3, 3, 3, 3, 3, 3);
        due("before any parse", x.value(), 0);
        x.parse();
        due("a token's number wraps", x.value(), -1);
        x.wipe();
        x.clear(0);
        x.build();
        due("of the latest parse", x.value(), -1);
        x.parse();
        due("after ERROR", x.value(), 0);
        // The product wraps too: 65535 times itself, less 2 to the 32nd.
        ParserForge y = new ParserForge();
        terms(y, 0, 3, 8);
        terms(y, 1, 0);
        y.produce(10, 10, 1, 10);
        y.produce(10, 0, -1, -1);
        y.action(0, 1, 7);
        y.build();
        text(y, 3, 3, 3, 3, 3, 3, 3, 3, 0, 3, 3, 3, 3, 3, 3, 3, 3);
        y.parse();
        due("times 0", y.value(), 7);
        ParserForge z = new ParserForge();
        terms(z, 0, 3, 8);
        terms(z, 1, 1);
        z.produce(10, 0, 1, 0);
        z.action(0, 1, 0);
        z.build();
        text(z, 3, 3, 3, 3, 3, 3, 3, 3, 1, 3, 3, 3, 3, 3, 3, 3, 3);
        z.parse();
        due("a product that wraps", z.value(), (int) (65535L * 65535L));
    }

    private static void place() {
        about("promise 17");
        ParserForge x = letters();
        x.clear(3);
        x.skip(2, true);
        x.produce(10, 10, 0, -1);
        x.produce(10, 1, -1, -1);
        x.parse();
        due("after UNBUILT", x.place(), -1);
        x.build();
        due("after build", x.place(), -1);
        parsed(x, ParserForge.STUCK, 0, 3, 1, 2, 0, 3);
        parsed(x, ParserForge.ERROR, 0, 2);
        parsed(x, ParserForge.ERROR, 0, 2, 2, 2, 0);
        parsed(x, ParserForge.ERROR, 0, 64 * 2 + 1 + 16, 1, 2, 0, 2, 2, 1);
        parsed(x, ParserForge.OK, 1, 3, 1, 0, 0);
        x.wipe();
        x.rule(0, 0);
        due("failing build", x.build(), ParserForge.RULES);
        due("of the latest parse", x.place(), 3);
        // The terminals are those of the state behind the reduces that the lookahead still allowed.
        ParserForge y = letters();
        grammar(y, makes(10, 0, 11, 0), makes(10, 1, 11, 1), makes(11, 2));
        y.build();
        parsed(y, ParserForge.ERROR, 0, 64 * 2 + 1, 0, 2, 1);
        parsed(y, ParserForge.ERROR, 0, 64 * 2 + 2, 1, 2, 0);
        parsed(y, ParserForge.ERROR, 0, 64 * 2 + 3, 1, 2, 3);
        parsed(y, ParserForge.ERROR, 0, 64 * 2 + 3, 1, 2);
        // Endless behind a token.
        ParserForge z = letters();
        grammar(z, makes(10, 0, 11), makes(11, 12, 11), makes(12), makes(11), makes(11, 1));
        z.build();
        parsed(z, ParserForge.ENDLESS, 0, 1, 0);
        parsed(z, ParserForge.OK, 1, 2, 0, 1);
    }
}
