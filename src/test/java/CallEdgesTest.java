import java.util.List;
import java.util.function.Consumer;

/**
 * A test of its own for each sentence of promises 1 to 17 that names an edge: too small, too large, empty, full, or a
 * call that is refused. The edges of the section "Terms" are in ScannerEdgesTest and ParserEdgesTest.
 */
public final class CallEdgesTest extends Bench {
    private static final int[] NO_RULES = {-1, 4, 5, LOWEST, HIGHEST};

    public static void main(String[] args) {
        useOf512Calls();
        newRulesAreEmpty();
        newRulesAreNotSkipped();
        newHasNoProductions();
        newRanksAreZero();
        newTextIsEmpty();
        newHasNothingBuilt();
        ruleWithoutSuchRule();
        ruleWithoutSuchTerm();
        ruleWith8Terms();
        clearAnswersTheLength();
        clearWithoutSuchRule();
        skipFromNowOnOrNot();
        skipWithoutSuchRule();
        produceAsFarAsNotMissing();
        produceOfNoNonterminal();
        produceOfNoSymbol();
        produceBehindMissing();
        produceWith8();
        retractTheGreatest();
        retractWithoutAny();
        rankInRange();
        rankOutOfRange();
        actionWithoutSuchProduction();
        actionWithoutSuchOp();
        buildAsTheyAreNow();
        buildOfLessThanBefore();
        buildIsNotTouched();
        buildRules();
        buildMoreThan60Sets();
        buildMoreThan40States();
        buildElseOk();
        builtLast();
        builtElse();
        builtWithoutBuild();
        putNoLetter();
        putWith20();
        wipeAnswersTheLength();
        tokensUpToStuck();
        tokensWithoutSkipped();
        tokensWithoutBuild();
        tokenThatIsNone();
        tokenOfAnotherWhat();
        parseUnbuilt();
        parseStuck();
        parseErrorEndlessOrOk();
        valueElse();
        valueWithoutParse();
        placeAfterStuck();
        placeAfterError();
        placeAfterEndless();
        placeAfterOk();
        placeWithoutParse();
        valueAndPlaceOfTheLatestParse();
        end();
    }

    /** An object with something in every part: built, parsed, and changed a little since. */
    private static void used(ParserForge x) {
        terms(x, 0, 0, 8);
        terms(x, 1, 1);
        terms(x, 2, 2);
        terms(x, 3, 3, 0, 1, 2, 6, 5, 5, 9);
        x.skip(2, true);
        grammar(x, makes(10, 10, 0, 10), makes(10, 10, 1, 10), makes(10, 3));
        x.rank(0, 2, 0);
        x.rank(1, 2, 1);
        x.action(0, 2, 5);
        x.action(1, 1, -5);
        x.action(2, 3, 7);
        x.build();
        text(x, 3, 0, 1, 0, 0, 2, 3, 0, 2, 1, 3, 0, 1);
        x.parse();
        x.skip(2, false);
        x.produce(10, 2, -1, -1);
        x.rank(2, 1, 1);
        x.action(2, 0, 1);
    }

    /** The same with 8 productions, 8 terms in rule 3 and 20 letters. */
    private static void full(ParserForge x) {
        used(x);
        for (int p = 4; p < 8; p++) {
            x.produce(11, 3, 3, 3);
        }
        text(x, 3, 0, 1, 0, 3, 0, 2, 1, 3, 0, 1, 0, 0, 3, 0, 1, 0, 2, 2, 1);
    }

    private static void refusedRule(Consumer<ParserForge> before, int r, int term) {
        refused("rule(" + r + ", " + term + ")", before, x -> bit(x.rule(r, term)), 0);
    }

    private static void refusedProduce(Consumer<ParserForge> before, int left, int a, int b, int c) {
        String call = "produce(" + left + ", " + a + ", " + b + ", " + c + ")";
        refused(call, before, x -> x.produce(left, a, b, c), -1);
    }

    private static void refusedRank(int t, int rank, int grouping) {
        String call = "rank(" + t + ", " + rank + ", " + grouping + ")";
        refused(call, CallEdgesTest::used, x -> bit(x.rank(t, rank, grouping)), 0);
    }

    private static void refusedAction(Consumer<ParserForge> before, int p, int op) {
        refused("action(" + p + ", " + op + ", 99)", before, x -> bit(x.action(p, op, 99)), 0);
    }

    private static void useOf512Calls() {
        about("An object is used for at most 512 calls after it has been made");
        ParserForge x = new ParserForge();
        x.rule(0, 3);
        x.produce(10, 0, -1, -1);
        x.build();
        for (int call = 3; call < 507; call += 4) {
            due("put(3)", x.put(3), true);
            due("parse()", x.parse(), ParserForge.OK);
            due("value()", x.value(), 3);
            due("wipe()", x.wipe(), 1);
        }
        due("call 508: put(3)", x.put(3), true);
        due("call 509: put(3)", x.put(3), true);
        due("call 510: tokens()", x.tokens(), 2);
        due("call 511: parse()", x.parse(), ParserForge.ERROR);
        due("call 512: place()", x.place(), 64 + 16);
    }

    // ---- promise 1

    private static void newRulesAreEmpty() {
        about("1: empty rules");
        for (int r = 0; r < 4; r++) {
            due("clear(" + r + ")", new ParserForge().clear(r), 0);
        }
        ParserForge x = new ParserForge();
        due("build()", x.build(), ParserForge.OK);
        due("built(0)", x.built(0), 0);
    }

    private static void newRulesAreNotSkipped() {
        about("1: not skipped");
        ParserForge x = letters();
        x.build();
        due("the tokens", cut(x, 0, 1, 2, 3), "0:0-1 1:1-2 2:2-3 3:3-4");
    }

    private static void newHasNoProductions() {
        about("1: no productions");
        due("retract()", new ParserForge().retract(), false);
        due("action(0, 0, 0)", new ParserForge().action(0, 0, 0), false);
        due("produce", new ParserForge().produce(10, -1, -1, -1), 0);
        ParserForge x = new ParserForge();
        x.build();
        due("built(2), START's states", x.built(2), 2);
        parsed(x, ParserForge.ERROR, 0, 0);
    }

    private static void newRanksAreZero() {
        about("1: ranks 0");
        for (int t = 0; t < 4; t++) {
            ParserForge x = parserOf(makes(10, 10, t, 10), makes(10, (t + 1) % 4));
            due("built(3) with terminal " + t, x.built(3), 1);
            // The other one has a rank now; that of t still is 0.
            x.produce(10, 10, (t + 2) % 4, 10);
            x.rank((t + 2) % 4, 5, 0);
            x.build();
            due("built(3) with a ranked one too", x.built(3), 3);
        }
    }

    private static void newTextIsEmpty() {
        about("1: an empty text");
        due("wipe()", new ParserForge().wipe(), 0);
        ParserForge x = new ParserForge();
        terms(x, 0, 4);
        x.produce(10, -1, -1, -1);
        x.build();
        due("tokens()", x.tokens(), 0);
        due("parse()", x.parse(), ParserForge.OK);
    }

    private static void newHasNothingBuilt() {
        about("1: nothing is built");
        counts(new ParserForge(), -1, -1, -1, -1);
        due("tokens()", new ParserForge().tokens(), -1);
        due("token(0, 0)", new ParserForge().token(0, 0), -1);
        due("parse()", new ParserForge().parse(), ParserForge.UNBUILT);
    }

    // ---- promise 2

    private static void ruleWithoutSuchRule() {
        about("2: false, and nothing changes, if there is no such rule");
        for (int r : NO_RULES) {
            for (int term = 0; term < 10; term++) {
                refusedRule(CallEdgesTest::used, r, term);
            }
        }
        ParserForge x = new ParserForge();
        due("rule(0, 1), the least rule", x.rule(0, 1), true);
        due("rule(3, 1), the greatest rule", x.rule(3, 1), true);
        due("clear(0)", x.clear(0), 1);
        due("clear(3)", x.clear(3), 1);
    }

    private static void ruleWithoutSuchTerm() {
        about("2: false, and nothing changes, if there is no such term");
        for (int term : new int[] {-1, 10, 11, LOWEST, HIGHEST}) {
            for (int r = 0; r < 4; r++) {
                refusedRule(CallEdgesTest::used, r, term);
            }
        }
        ParserForge x = new ParserForge();
        due("rule(0, 0), the least term", x.rule(0, 0), true);
        due("rule(0, 9), the greatest term", x.rule(0, 9), true);
        due("clear(0)", x.clear(0), 2);
    }

    private static void ruleWith8Terms() {
        about("2: false, and nothing changes, if it has 8");
        for (int term = 0; term < 10; term++) {
            refusedRule(CallEdgesTest::used, 3, term);
        }
        for (int r = 0; r < 4; r++) {
            ParserForge x = letters();
            x.clear(r);
            // Any letter, or none, once or not at all in many ways.
            for (int term : new int[] {4, 9, 9, 9, 9, 9, 9}) {
                x.rule(r, term);
            }
            due("the eighth term of rule " + r, x.rule(r, 9), true);
            due("the ninth term of rule " + r, x.rule(r, 5), false);
            due("build()", x.build(), ParserForge.OK);
            due("the other rules", x.built(0), 4);
            due("clear(" + r + ")", x.clear(r), 8);
            due("a first term again", x.rule(r, r), true);
        }
    }

    // ---- promise 3

    private static void clearAnswersTheLength() {
        about("3: answers how many terms it had");
        for (int length = 0; length <= 8; length++) {
            ParserForge x = new ParserForge();
            terms(x, 2, times(length, 9));
            due("clear(2) of " + length, x.clear(2), length);
            due("clear(2) again", x.clear(2), 0);
            due("build() without these terms", x.build(), ParserForge.OK);
        }
    }

    private static void clearWithoutSuchRule() {
        about("3: -1 if there is no such rule");
        for (int r : NO_RULES) {
            refused("clear(" + r + ")", CallEdgesTest::used, x -> x.clear(r), -1);
        }
        due("clear(0)", letters().clear(0), 1);
        due("clear(3)", letters().clear(3), 1);
    }

    // ---- promise 4

    private static void skipFromNowOnOrNot() {
        about("4: rule r is skipped from now on, or not");
        for (int r = 0; r < 4; r++) {
            ParserForge x = new ParserForge();
            due("skip of an empty rule", x.skip(r, true), true);
            letters(x);
            x.build();
            text(x, 0, 1, 2, 3);
            due("tokens() without one", x.tokens(), 3);
            due("skip again", x.skip(r, true), true);
            x.build();
            due("tokens() as before", x.tokens(), 3);
            due("skip no more", x.skip(r, false), true);
            x.build();
            due("tokens() with all", x.tokens(), 4);
            due("skip no more, again", x.skip(r, false), true);
            x.build();
            due("tokens() with all as before", x.tokens(), 4);
        }
    }

    private static void skipWithoutSuchRule() {
        about("4: false if there is no such rule");
        for (int r : NO_RULES) {
            refused("skip(" + r + ", true)", CallEdgesTest::used, x -> bit(x.skip(r, true)), 0);
            refused("skip(" + r + ", false)", CallEdgesTest::used, x -> bit(x.skip(r, false)), 0);
        }
    }

    // ---- promise 5

    private static void produceAsFarAsNotMissing() {
        about("5: the right side a, b, c as far as they are not -1: its number");
        ParserForge x = letters();
        due("none", x.produce(10, -1, -1, -1), 0);
        due("one", x.produce(10, 3, -1, -1), 1);
        due("two", x.produce(10, 3, 0, -1), 2);
        due("three", x.produce(10, 3, 0, 3), 3);
        x.build();
        parsed(x, ParserForge.OK, 0, 1);
        parsed(x, ParserForge.OK, 3, 1, 3);
        parsed(x, ParserForge.OK, 3, 1, 3, 0);
        parsed(x, ParserForge.OK, 6, 1, 3, 0, 3);
        parsed(x, ParserForge.ERROR, 0, 64 * 3 + 16, 3, 0, 3, 0);
    }

    private static void produceOfNoNonterminal() {
        about("5: -1, and nothing changes, if left is no nonterminal");
        for (int left : new int[] {-1, 0, 3, 4, 9, 13, LOWEST, HIGHEST}) {
            refusedProduce(CallEdgesTest::used, left, -1, -1, -1);
            refusedProduce(CallEdgesTest::used, left, 3, 10, 3);
        }
        due("the least", new ParserForge().produce(10, -1, -1, -1), 0);
        due("the greatest", new ParserForge().produce(12, -1, -1, -1), 0);
    }

    private static void produceOfNoSymbol() {
        about("5: -1, and nothing changes, if one of a, b, c is neither -1 nor a symbol");
        for (int bad : new int[] {-2, 4, 5, 9, 13, LOWEST, HIGHEST}) {
            refusedProduce(CallEdgesTest::used, 10, bad, -1, -1);
            refusedProduce(CallEdgesTest::used, 10, bad, 0, 0);
            refusedProduce(CallEdgesTest::used, 10, 0, bad, -1);
            refusedProduce(CallEdgesTest::used, 10, 0, bad, 0);
            refusedProduce(CallEdgesTest::used, 10, 0, 0, bad);
        }
        for (int good : new int[] {0, 3, 10, 12}) {
            due("a, " + good, new ParserForge().produce(10, good, -1, -1), 0);
            due("b, " + good, new ParserForge().produce(10, 0, good, -1), 0);
            due("c, " + good, new ParserForge().produce(10, 0, 0, good), 0);
        }
    }

    private static void produceBehindMissing() {
        about("5: -1, and nothing changes, if one behind a -1 is not -1");
        for (int symbol : new int[] {0, 3, 10, 12}) {
            refusedProduce(CallEdgesTest::used, 10, -1, symbol, -1);
            refusedProduce(CallEdgesTest::used, 10, -1, -1, symbol);
            refusedProduce(CallEdgesTest::used, 10, -1, symbol, symbol);
            refusedProduce(CallEdgesTest::used, 10, symbol, -1, symbol);
        }
    }

    private static void produceWith8() {
        about("5: -1, and nothing changes, if there are 8");
        refusedProduce(CallEdgesTest::full, 10, 3, -1, -1);
        refusedProduce(CallEdgesTest::full, 12, -1, -1, -1);
        ParserForge x = new ParserForge();
        for (int p = 0; p < 8; p++) {
            due("production " + p, x.produce(10, p % 4, 10, -1), p);
        }
        due("a ninth", x.produce(10, 3, -1, -1), -1);
        x.retract();
        due("an eighth again", x.produce(10, 3, -1, -1), 7);
        due("a ninth still", x.produce(10, 3, -1, -1), -1);
    }

    // ---- promise 6

    private static void retractTheGreatest() {
        about("6: takes the production with the greatest number away");
        ParserForge x = letters();
        for (int t = 0; t < 4; t++) {
            x.produce(10, t, -1, -1);
            x.produce(10, t, t, -1);
        }
        for (int left = 7; left >= 0; left--) {
            due("action(" + left + ", 0, 0)", x.action(left, 0, 0), true);
            due("retract()", x.retract(), true);
            due("action of what is gone", x.action(left, 0, 0), false);
            x.build();
            int t = left / 2;
            text(x, t);
            due("parse() of one " + t, x.parse(), left % 2 == 0 ? ParserForge.ERROR : ParserForge.OK);
            text(x, t, t);
            due("parse() of two " + t, x.parse(), ParserForge.ERROR);
        }
    }

    private static void retractWithoutAny() {
        about("6: false if there is none");
        refused("retract()", x -> grammar(x), x -> bit(x.retract()), 0);
        ParserForge x = new ParserForge();
        x.produce(10, 0, -1, -1);
        due("of one", x.retract(), true);
        due("of none", x.retract(), false);
        due("of none again", x.retract(), false);
        due("the first number", x.produce(10, 0, -1, -1), 0);
    }

    // ---- promise 7

    private static void rankInRange() {
        about("7: rank (0..5) and grouping (0..2) of terminal t (0..3): true");
        ParserForge x = new ParserForge();
        for (int t = 0; t < 4; t++) {
            for (int rank = 0; rank <= 5; rank++) {
                for (int grouping = 0; grouping <= 2; grouping++) {
                    due("rank(" + t + ", " + rank + ", " + grouping + ")", x.rank(t, rank, grouping), true);
                }
            }
        }
    }

    private static void rankOutOfRange() {
        about("7: false, and nothing changes, if one is out of range");
        for (int t : new int[] {-1, 4, LOWEST, HIGHEST}) {
            refusedRank(t, 0, 0);
            refusedRank(t, 5, 2);
        }
        for (int t = 0; t < 2; t++) {
            for (int rank : new int[] {-1, 6, LOWEST, HIGHEST}) {
                refusedRank(t, rank, 0);
                refusedRank(t, rank, 1);
            }
            for (int grouping : new int[] {-1, 3, LOWEST, HIGHEST}) {
                refusedRank(t, 0, grouping);
                refusedRank(t, 5, grouping);
            }
        }
    }

    // ---- promise 8

    private static void actionWithoutSuchProduction() {
        about("8: false, and nothing changes, if there is no such production");
        for (int p : new int[] {-1, 4, 5, 8, LOWEST, HIGHEST}) {
            refusedAction(CallEdgesTest::used, p, 0);
        }
        for (int p : new int[] {-1, 8, 9, LOWEST, HIGHEST}) {
            refusedAction(CallEdgesTest::full, p, 0);
        }
        refusedAction(x -> grammar(x), 0, 0);
        ParserForge x = new ParserForge();
        full(x);
        due("of the least", x.action(0, 0, 0), true);
        due("of the greatest", x.action(7, 0, 0), true);
    }

    private static void actionWithoutSuchOp() {
        about("8: false, and nothing changes, if op is not 0..3");
        for (int op : new int[] {-1, 4, 5, LOWEST, HIGHEST}) {
            refusedAction(CallEdgesTest::used, 0, op);
            refusedAction(CallEdgesTest::used, 2, op);
        }
        ParserForge x = new ParserForge();
        used(x);
        due("the least op", x.action(0, 0, LOWEST), true);
        due("the greatest op", x.action(0, 3, HIGHEST), true);
    }

    // ---- promise 9

    private static void buildAsTheyAreNow() {
        about("9: builds scanner and parser of what is now");
        ParserForge x = new ParserForge();
        used(x);
        // Since the build before, 2 became a token that 10 makes, and 1 is skipped now.
        x.skip(1, true);
        due("the tokens as of then", cut(x, 2, 2, 1), "1:2-3");
        parsed(x, ParserForge.OK, 7, 1, 3, 0, 1);
        due("build()", x.build(), ParserForge.OK);
        due("the tokens as of now", cut(x, 2, 2, 1), "2:0-1 2:1-2");
        parsed(x, ParserForge.OK, 48 + 1 + 1, 1, 3, 0, 1);
        parsed(x, ParserForge.OK, 2, 1, 2);
    }

    private static void buildOfLessThanBefore() {
        about("9: as they are now: of what was built before nothing is left");
        ParserForge x = new ParserForge();
        setsOf60(x);
        statesOf40(x);
        x.build();
        for (int r = 1; r < 4; r++) {
            x.clear(r);
        }
        terms(x, 0, 4, 7, 0, 5, 4, 5, 4, 5);
        grammar(x, makes(10, 0));
        x.build();
        counts(x, 8, 8, 3, 0);
        terms(x, 0, 4, 4, 5, 7);
        x.build();
        counts(x, 2, 3, 3, 0);
        // The place at which rule 0 ended is one in the midst of rule 1 now.
        ParserForge y = letters();
        y.build();
        y.clear(0);
        terms(y, 1, 1, 0, 5);
        y.build();
        due("the tokens", cut(y, 1, 0, 1), "1:0-2 !2");
        // Neither does 0 begin 11 or 10 any more, nor can 11 be nothing.
        ParserForge z = parserOf(makes(10, 12, 11), makes(12, 3), makes(11, 0), makes(11));
        parsed(z, ParserForge.ERROR, 0, 64 + 1 + 16, 3, 3);
        grammar(z, makes(10, 12, 11), makes(12, 3), makes(11, 1));
        z.build();
        parsed(z, ParserForge.ERROR, 0, 64 + 2, 3, 3);
        grammar(z, makes(10, 12, 10), makes(12, 3), makes(10, 0));
        z.build();
        parsed(z, ParserForge.ERROR, 0, 64 + 1 + 8, 3, 2);
        grammar(z, makes(10, 12, 10), makes(12, 3), makes(10, 1));
        z.build();
        parsed(z, ParserForge.ERROR, 0, 64 + 2 + 8, 3, 2);
    }

    private static void builtStays(String change, Consumer<ParserForge> changed) {
        ParserForge x = parserOf(makes(10, 10, 0, 10), makes(10, 1));
        x.rank(0, 1, 0);
        x.action(0, 2, 10);
        x.skip(2, true);
        x.build();
        changed.accept(x);
        about("9: later changes of these do not touch them: " + change);
        counts(x, 4, 5, 5, 0);
        due("the tokens", cut(x, 1, 0, 2, 1), "1:0-1 0:1-2 1:3-4");
        parsed(x, ParserForge.OK, 1 - 1 + 10 - 1 + 10, 5, 1, 0, 1, 2, 0, 1);
    }

    private static void buildIsNotTouched() {
        builtStays("nothing", x -> { });
        builtStays("clear", x -> x.clear(1));
        builtStays("rule", x -> x.rule(1, 8));
        builtStays("a rule that is not well formed", x -> x.rule(1, 1));
        builtStays("a rule of before", x -> terms(x, 0, 1));
        builtStays("skip on", x -> x.skip(1, true));
        builtStays("skip off", x -> x.skip(2, false));
        builtStays("produce", x -> x.produce(10, -1, -1, -1));
        builtStays("retract", x -> x.retract());
        builtStays("retract of all", x -> grammar(x));
        builtStays("other productions", x -> grammar(x, makes(12, 3, 3, 3), makes(11)));
        builtStays("rank", x -> x.rank(0, 0, 0));
        builtStays("grouping", x -> x.rank(0, 1, 1));
        builtStays("action", x -> x.action(0, 0, 0));
        builtStays("constant", x -> x.action(1, 0, 3));
    }

    private static void buildFails(int answer, Consumer<ParserForge> before) {
        refused("build()", before, x -> x.build(), answer);
        ParserForge x = new ParserForge();
        before.accept(x);
        due("build() again", x.build(), answer);
    }

    private static void buildRules() {
        about("9: RULES: a rule is neither empty nor well formed; nothing changes then");
        for (int bad = 0; bad < 4; bad++) {
            int r = bad;
            buildFails(ParserForge.RULES, x -> terms(x, r, 5));
            buildFails(ParserForge.RULES, x -> {
                used(x);
                terms(x, r, 0, 1);
            });
            buildFails(ParserForge.RULES, x -> {
                full(x);
                terms(x, r, 0, 0, 0, 0, 0, 0, 0, 0);
            });
        }
        // Too many states as well: that there is no scanner at all is said first.
        buildFails(ParserForge.RULES, x -> {
            terms(x, 0, 0, 1);
            statesOf41(x);
        });
    }

    private static void buildMoreThan60Sets() {
        about("9: MANY: there would be more than 60 sets (not counting the empty one); nothing changes then");
        buildFails(ParserForge.MANY, x -> setsOf61(x));
        buildFails(ParserForge.MANY, x -> {
            used(x);
            setsOf61(x);
        });
        buildFails(ParserForge.MANY, x -> {
            setsOf60(x);
            statesOf40(x);
            x.build();
            setsOf61(x);
        });
        // All 16 places that four rules can have.
        buildFails(ParserForge.MANY, x -> {
            used(x);
            for (int r = 0; r < 4; r++) {
                terms(x, r, 4, 7, r, 5, 4, 5, 4, 5);
            }
        });
        ParserForge x = new ParserForge();
        setsOf60(x);
        due("build() of 60", x.build(), ParserForge.OK);
        due("built(0)", x.built(0), 60);
    }

    private static void buildMoreThan40States() {
        about("9: MANY: or more than 40 parser states; nothing changes then");
        buildFails(ParserForge.MANY, x -> statesOf41(x));
        buildFails(ParserForge.MANY, x -> {
            used(x);
            statesOf41(x);
        });
        buildFails(ParserForge.MANY, x -> {
            setsOf60(x);
            statesOf40(x);
            x.build();
            statesOf41(x);
        });
        buildFails(ParserForge.MANY, x -> {
            full(x);
            setsOf61(x);
            statesOf41(x);
        });
        ParserForge x = new ParserForge();
        statesOf40(x);
        due("build() of 40", x.build(), ParserForge.OK);
        due("built(2)", x.built(2), 40);
    }

    private static void buildElseOk() {
        about("9: else OK");
        due("of nothing", new ParserForge().build(), ParserForge.OK);
        ParserForge x = new ParserForge();
        setsOf60(x);
        statesOf40(x);
        due("of as much as can be", x.build(), ParserForge.OK);
        due("once more", x.build(), ParserForge.OK);
        setsOf61(x);
        due("too much", x.build(), ParserForge.MANY);
        terms(x, 3, 3);
        due("less again", x.build(), ParserForge.OK);
    }

    // ---- promise 10

    private static void builtLast() {
        about("10: of what was built last");
        ParserForge x = new ParserForge();
        setsOf60(x);
        statesOf40(x);
        x.build();
        due("built(0)", x.built(0), 60);
        due("built(2)", x.built(2), 40);
        letters(x);
        grammar(x, makes(10, 0));
        x.build();
        counts(x, 4, 5, 3, 0);
        setsOf61(x);
        x.build();
        counts(x, 4, 5, 3, 0);
        for (int r = 0; r < 4; r++) {
            x.clear(r);
        }
        grammar(x);
        x.build();
        counts(x, 0, 0, 2, 0);
    }

    private static void builtElse() {
        about("10: else -1");
        ParserForge x = new ParserForge();
        used(x);
        for (int what : new int[] {-1, 4, 5, LOWEST, HIGHEST}) {
            due("built(" + what + ")", x.built(what), -1);
        }
        due("built(0), the least", x.built(0) > 0, true);
        due("built(3), the greatest", x.built(3), 0);
    }

    private static void builtWithoutBuild() {
        about("10: or if nothing was built, -1");
        ParserForge x = letters();
        x.produce(10, 0, -1, -1);
        counts(x, -1, -1, -1, -1);
        due("built(4)", x.built(4), -1);
        terms(x, 0, 5);
        x.build();
        counts(x, -1, -1, -1, -1);
        setsOf61(x);
        x.build();
        counts(x, -1, -1, -1, -1);
    }

    // ---- promise 11

    private static void putNoLetter() {
        about("11: false if it is none");
        for (int letter : new int[] {-1, 4, 5, LOWEST, HIGHEST}) {
            refused("put(" + letter + ")", CallEdgesTest::used, x -> bit(x.put(letter)), 0);
        }
        ParserForge x = new ParserForge();
        for (int letter = 0; letter < 4; letter++) {
            due("put(" + letter + ")", x.put(letter), true);
        }
        due("wipe()", x.wipe(), 4);
    }

    private static void putWith20() {
        about("11: false if there are 20");
        for (int bad = 0; bad < 4; bad++) {
            int letter = bad;
            refused("put(" + letter + ")", CallEdgesTest::full, x -> bit(x.put(letter)), 0);
        }
        ParserForge x = new ParserForge();
        for (int i = 0; i < 20; i++) {
            due("letter " + i, x.put(3), true);
        }
        due("one more", x.put(3), false);
        due("wipe()", x.wipe(), 20);
        due("a first one again", x.put(3), true);
    }

    // ---- promise 12

    private static void wipeAnswersTheLength() {
        about("12: empties the text; answers how long it was");
        for (int length = 0; length <= 20; length++) {
            ParserForge x = letters();
            x.build();
            text(x, times(length, 2));
            due("wipe() of " + length, x.wipe(), length);
            due("wipe() again", x.wipe(), 0);
            due("tokens()", x.tokens(), 0);
            x.put(3);
            due("the tokens of what comes then", x.tokens() * 10 + x.token(0, 0), 13);
        }
    }

    // ---- promise 13

    private static void tokensUpToStuck() {
        about("13: how many tokens (up to where it is STUCK)");
        ParserForge x = letters();
        x.clear(3);
        x.build();
        for (int place = 0; place < 20; place++) {
            int[] letters = times(20, 1);
            letters[place] = 3;
            text(x, letters);
            due("stuck at " + place, x.tokens(), place);
        }
        text(x, times(20, 1));
        due("not stuck", x.tokens(), 20);
        text(x);
        due("without letters", x.tokens(), 0);
    }

    private static void tokensWithoutSkipped() {
        about("13: without skipped ones");
        ParserForge x = letters();
        x.skip(1, true);
        x.clear(3);
        x.build();
        text(x, 1, 0, 1, 1, 2, 1);
        due("tokens()", x.tokens(), 2);
        text(x, times(20, 1));
        due("of skipped ones alone", x.tokens(), 0);
        text(x, 1, 0, 1, 3, 0);
        due("up to where it is stuck", x.tokens(), 1);
    }

    private static void tokensWithoutBuild() {
        about("13: -1 if nothing was built");
        ParserForge x = letters();
        due("tokens() of no text", x.tokens(), -1);
        x.put(0);
        due("tokens()", x.tokens(), -1);
        x.rule(0, 1);
        x.build();
        due("tokens() after RULES", x.tokens(), -1);
        setsOf61(x);
        x.build();
        due("tokens() after MANY", x.tokens(), -1);
        letters(x);
        x.build();
        due("tokens() after OK", x.tokens(), 1);
    }

    // ---- promise 14

    private static void tokenThatIsNone() {
        about("14: -1 if there is none");
        ParserForge x = letters();
        text(x, 0, 1);
        due("unbuilt", x.token(0, 0), -1);
        x.clear(3);
        x.skip(2, true);
        x.build();
        for (int what = 0; what < 4; what++) {
            for (int k : new int[] {-1, 2, 3, 19, 20, 21, LOWEST, HIGHEST}) {
                due("token(" + k + ", " + what + ")", x.token(k, what), -1);
            }
        }
        text(x, 0, 1, 3, 1);
        due("behind where it is stuck", x.token(2, 0), -1);
        due("the last one before", x.token(1, 1), 1);
        text(x, 0, 1, 2);
        due("a skipped one", x.token(2, 0), -1);
        text(x);
        due("of no text", x.token(0, 1), -1);
        text(x, times(20, 1));
        due("the begin of the 20th", x.token(19, 1), 19);
        due("the end of the 20th", x.token(19, 2), 20);
        due("a 21st", x.token(20, 0), -1);
        x.wipe();
        due("what was wiped", x.token(0, 0), -1);
    }

    private static void tokenOfAnotherWhat() {
        about("14: -1 if what is another");
        ParserForge x = letters();
        x.build();
        text(x, 0, 3);
        for (int what : new int[] {-1, 4, 5, LOWEST, HIGHEST}) {
            due("token(0, " + what + ")", x.token(0, what), -1);
            due("token(1, " + what + ")", x.token(1, what), -1);
        }
        due("token(1, 0), the least", x.token(1, 0), 3);
        due("token(1, 3), the greatest", x.token(1, 3), 3);
    }

    // ---- promise 15

    private static void parseUnbuilt() {
        about("15: UNBUILT");
        ParserForge x = letters();
        x.produce(10, 0, -1, -1);
        due("parse() of no text", x.parse(), ParserForge.UNBUILT);
        text(x, 0);
        due("parse()", x.parse(), ParserForge.UNBUILT);
        x.rule(0, 1);
        x.build();
        due("parse() after RULES", x.parse(), ParserForge.UNBUILT);
        letters(x);
        statesOf41(x);
        x.build();
        due("parse() after MANY", x.parse(), ParserForge.UNBUILT);
        grammar(x, makes(10, 0));
        x.build();
        due("parse() after OK", x.parse(), ParserForge.OK);
        x.rule(0, 1);
        x.build();
        due("parse() after RULES, of what was built before", x.parse(), ParserForge.OK);
    }

    private static void parseStuck() {
        about("15: STUCK if the scan is");
        ParserForge x = parserOf(makes(10, 0));
        x.clear(3);
        x.build();
        parsed(x, ParserForge.STUCK, 0, 0, 3);
        // Though the parser could tell an error before.
        parsed(x, ParserForge.STUCK, 0, 3, 1, 1, 1, 3);
        parsed(x, ParserForge.STUCK, 0, 19, join(times(19, 0), times(1, 3)));
        // Without a rule every letter is too much, but no text is not.
        ParserForge y = new ParserForge();
        y.build();
        parsed(y, ParserForge.STUCK, 0, 0, 0);
        parsed(y, ParserForge.ERROR, 0, 0);
        // Though it would be endless before.
        ParserForge z = parserOf(makes(10, 11, 10), makes(11), makes(10, 1));
        z.clear(3);
        z.produce(10, -1, -1, -1);
        z.build();
        parsed(z, ParserForge.ENDLESS, 0, 0);
        parsed(z, ParserForge.STUCK, 0, 1, 2, 3);
    }

    private static void parseErrorEndlessOrOk() {
        about("15: ERROR, ENDLESS, or OK");
        ParserForge x = parserOf(makes(12), makes(12, 12, 12), makes(10, 0, 11), makes(11), makes(11, 1),
            makes(11, 2, 12), makes(10));
        parsed(x, ParserForge.OK, 0, 1);
        parsed(x, ParserForge.OK, 0, 2, 0);
        parsed(x, ParserForge.OK, 1, 2, 0, 1);
        parsed(x, ParserForge.ERROR, 0, 64 * 2 + 16, 0, 1, 1);
        parsed(x, ParserForge.ENDLESS, 0, 2, 0, 2);
    }

    // ---- promise 16

    /** Letter 0 is OK with value 9, 1 an error, 2 endless and 3 stuck. */
    private static ParserForge allAnswers() {
        ParserForge x = letters();
        grammar(x, makes(12), makes(12, 12, 12), makes(10, 0), makes(10, 2, 12));
        x.action(2, 0, 9);
        x.clear(3);
        x.build();
        return x;
    }

    private static void valueElse() {
        about("16: after parse with OK the value of 10; else 0");
        ParserForge x = allAnswers();
        for (int i = 0; i < 2; i++) {
            parsed(x, ParserForge.OK, 9, 1, 0);
            parsed(x, ParserForge.ERROR, 0, 5, 1);
            parsed(x, ParserForge.OK, 9, 1, 0);
            parsed(x, ParserForge.ENDLESS, 0, 1, 2);
            parsed(x, ParserForge.OK, 9, 1, 0);
            parsed(x, ParserForge.STUCK, 0, 0, 3);
        }
        ParserForge y = parserOf(makes(10, 0));
        y.action(0, 0, LOWEST);
        y.build();
        parsed(y, ParserForge.OK, LOWEST, 1, 0);
        y.action(0, 0, HIGHEST);
        y.build();
        parsed(y, ParserForge.OK, HIGHEST, 1, 0);
    }

    private static void valueWithoutParse() {
        about("16: 0 (also if there was none)");
        due("of a new one", new ParserForge().value(), 0);
        ParserForge x = allAnswers();
        x.put(0);
        due("before a parse", x.value(), 0);
        ParserForge y = new ParserForge();
        y.parse();
        due("after UNBUILT", y.value(), 0);
    }

    // ---- promise 17

    private static void placeAfterStuck() {
        about("17: after STUCK the place in the text");
        ParserForge x = new ParserForge();
        terms(x, 0, 0, 1, 5);
        terms(x, 1, 2);
        x.skip(1, true);
        x.build();
        parsed(x, ParserForge.STUCK, 0, 0, 0, 0);
        // Where the token would begin, not where it can't go on; skipped ones count as places in the text.
        parsed(x, ParserForge.STUCK, 0, 3, 0, 1, 2, 0);
        parsed(x, ParserForge.STUCK, 0, 19, join(times(19, 2), times(1, 3)));
    }

    private static void placeAfterError() {
        about("17: after ERROR 64 times the number of the token plus the sum of 2^t");
        ParserForge x = parserOf(makes(10, 10, 0), makes(10, 1));
        parsed(x, ParserForge.ERROR, 0, 2, 0);
        parsed(x, ParserForge.ERROR, 0, 64 * 19 + 1 + 16, join(times(1, 1), times(18, 0), times(1, 3)));
        about("17: after ERROR (that of END: how many there are)");
        parsed(x, ParserForge.ERROR, 0, 2);
        ParserForge y = parserOf(makes(10, 0, 10), makes(10, 1));
        parsed(y, ParserForge.ERROR, 0, 64 * 20 + 1 + 2, times(20, 0));
        y.skip(3, true);
        y.build();
        parsed(y, ParserForge.ERROR, 0, 64 * 2 + 1 + 2, 3, 0, 3, 0, 3);
        about("17: after ERROR the terminals with which there is an action in the state on top then");
        ParserForge none = parserOf(makes(10, 11));
        parsed(none, ParserForge.ERROR, 0, 0);
        parsed(none, ParserForge.ERROR, 0, 0, 2);
        // All but the one that stands there: 0 begins 11, 1, 3 and END are behind it, 2 is missing.
        ParserForge most = parserOf(makes(10, 12, 11), makes(11, 0), makes(11, 1), makes(11, 3), makes(11), makes(12));
        parsed(most, ParserForge.ERROR, 0, 1 + 2 + 8 + 16, 2);
    }

    private static void placeAfterEndless() {
        about("17: after ENDLESS the number of the token that was looked at");
        ParserForge x = parserOf(makes(10, 0, 10), makes(10, 11, 10), makes(10, 1), makes(11), makes(10));
        x.skip(3, true);
        x.build();
        parsed(x, ParserForge.ENDLESS, 0, 0);
        parsed(x, ParserForge.ENDLESS, 0, 3, 0, 3, 0, 0);
        parsed(x, ParserForge.ENDLESS, 0, 20, times(20, 0));
    }

    private static void placeAfterOk() {
        about("17: after OK how many REDUCEs were done");
        ParserForge x = parserOf(makes(10, 10, 0), makes(10));
        for (int length = 0; length <= 20; length++) {
            parsed(x, ParserForge.OK, 0, length + 1, times(length, 0));
        }
    }

    private static void placeWithoutParse() {
        about("17: -1 if there was none");
        ParserForge x = new ParserForge();
        due("of a new one", x.place(), -1);
        x.parse();
        due("after UNBUILT", x.place(), -1);
        x.build();
        due("after build", x.place(), -1);
        x.tokens();
        due("after tokens", x.place(), -1);
    }

    private static void valueAndPlaceOfTheLatestParse() {
        about("16, 17: what the latest parse ended with");
        List<Consumer<ParserForge>> others = List.of(x -> x.tokens(), x -> x.token(0, 3), x -> x.built(0),
            x -> x.value(), x -> x.place(), x -> x.put(1), x -> x.wipe(), x -> x.tokens(), x -> x.rule(2, 7),
            x -> x.skip(0, true), x -> x.rank(0, 1, 1), x -> x.action(0, 1, 1), x -> x.build(), x -> x.clear(0),
            x -> x.retract(), x -> x.produce(10, -1, -1, -1), x -> x.rule(1, 1), x -> x.build(), x -> x.clear(1),
            x -> x.build());
        ParserForge x = allAnswers();
        parsed(x, ParserForge.OK, 9, 1, 0);
        for (int i = 0; i < others.size(); i++) {
            others.get(i).accept(x);
            due("value() after call " + i, x.value(), 9);
            due("place() after call " + i, x.place(), 1);
        }
    }
}
