/** Each promise of the document with ordinary inputs; the edges that it names have tests of their own. */
public final class PromisesTest extends Bench {
    public static void main(String[] args) {
        newObject();
        rule();
        clear();
        skip();
        produce();
        retract();
        rank();
        action();
        buildKeepsWhatItWasMadeOf();
        builtSetsAndClasses();
        builtStates();
        builtConflicts();
        putAndWipe();
        tokens();
        token();
        parseAnswers();
        parseLooksAhead();
        parseByRank();
        value();
        place();
        end();
    }

    private static void newObject() {
        about("promise 1");
        ParserForge x = new ParserForge();
        due("build() of nothing", x.build(), ParserForge.OK);
        counts(x, 0, 0, 2, 0);
        ParserForge y = letters();
        y.put(0);
        y.build();
        ParserForge z = new ParserForge();
        due("objects share nothing", z.clear(0) + z.wipe() + z.built(0), -1);
        int[] answers = {ParserForge.OK, ParserForge.RULES, ParserForge.MANY, ParserForge.UNBUILT, ParserForge.STUCK,
            ParserForge.ERROR, ParserForge.ENDLESS};
        for (int i = 0; i < answers.length; i++) {
            due("constant " + i, answers[i], i);
        }
    }

    private static void rule() {
        about("promise 2");
        ParserForge x = new ParserForge();
        // 0, then 1 or 2 any number of times
        for (int term : new int[] {0, 1, 2, 6, 7, 5}) {
            due("rule(3, " + term + ")", x.rule(3, term), true);
        }
        x.build();
        due("the tokens", cut(x, 0, 1, 2, 1, 0, 0, 2), "3:0-4 3:4-5 3:5-7");
        due("rule 3 has six", x.clear(3), 6);
        due("rule 0 has none", x.clear(0), 0);
    }

    private static void clear() {
        about("promise 3");
        ParserForge x = letters();
        x.rule(1, 8);
        x.skip(1, true);
        due("clear(1)", x.clear(1), 2);
        due("the others stay", x.clear(2), 1);
        x.rule(1, 1);
        x.build();
        due("a cleared rule is still skipped", cut(x, 1, 1, 0), "0:2-3");
        due("its old terms are gone", x.built(0), 3);
    }

    private static void skip() {
        about("promise 4");
        ParserForge x = letters();
        due("skip(2, true)", x.skip(2, true), true);
        x.build();
        due("left out", cut(x, 2, 3, 2, 2, 0), "3:1-2 0:4-5");
        x.skip(2, false);
        due("the skip was built", x.tokens(), 2);
        x.build();
        due("and is not any more", x.tokens(), 5);
    }

    private static void produce() {
        about("promise 5");
        ParserForge x = letters();
        due("one", x.produce(10, 11, 12, 11), 0);
        due("two", x.produce(11, 0, -1, -1), 1);
        due("three", x.produce(12, 3, 12, -1), 2);
        due("four", x.produce(12, -1, -1, -1), 3);
        x.build();
        parsed(x, ParserForge.OK, 6, 6, 0, 3, 3, 0);
        parsed(x, ParserForge.ERROR, 0, 64 * 2 + 1 + 8, 0, 3);
    }

    private static void retract() {
        about("promise 6");
        ParserForge x = letters();
        x.produce(10, 0, -1, -1);
        x.produce(10, 1, -1, -1);
        x.action(1, 0, 7);
        due("retract()", x.retract(), true);
        x.build();
        parsed(x, ParserForge.ERROR, 0, 1, 1);
        due("the number is free again", x.produce(10, 2, -1, -1), 1);
        x.build();
        parsed(x, ParserForge.OK, 2, 1, 2);
    }

    private static void rank() {
        about("promise 7");
        ParserForge x = letters();
        grammar(x, makes(10, 10, 0, 10), makes(10, 1));
        x.action(0, 2, 0);
        due("rank(0, 5, 1)", x.rank(0, 5, 1), true);
        x.build();
        due("settled", x.built(3), 0);
        parsed(x, ParserForge.OK, 1, 5, 1, 0, 1, 0, 1);
        due("rank(0, 5, 0)", x.rank(0, 5, 0), true);
        x.build();
        parsed(x, ParserForge.OK, -1, 5, 1, 0, 1, 0, 1);
        due("rank(0, 0, 0)", x.rank(0, 0, 0), true);
        x.build();
        due("back at 0", x.built(3), 1);
    }

    private static void action() {
        about("promise 8");
        ParserForge x = letters();
        x.produce(10, 3, 2, 1);
        due("action(0, 3, lowest)", x.action(0, 3, LOWEST), true);
        x.build();
        parsed(x, ParserForge.OK, LOWEST + 2, 1, 3, 2, 1);
        due("action(0, 0, 0)", x.action(0, 0, 0), true);
        parsed(x, ParserForge.OK, LOWEST + 2, 1, 3, 2, 1);
        x.build();
        parsed(x, ParserForge.OK, 6, 1, 3, 2, 1);
    }

    private static void buildKeepsWhatItWasMadeOf() {
        about("promise 9");
        ParserForge x = letters();
        x.produce(10, 10, 0, 10);
        x.produce(10, 1, -1, -1);
        x.rank(0, 1, 0);
        x.action(0, 2, 0);
        due("build()", x.build(), ParserForge.OK);
        counts(x, 4, 5, 5, 0);
        x.clear(0);
        x.rule(1, 8);
        x.skip(1, true);
        x.produce(11, 3, -1, -1);
        x.produce(10, 11, 11, -1);
        x.rank(0, 1, 2);
        x.action(1, 0, 5);
        counts(x, 4, 5, 5, 0);
        parsed(x, ParserForge.OK, 1 - 1, 3, 1, 0, 1);
        parsed(x, ParserForge.OK, 1 - 1 - 1, 5, 1, 0, 1, 0, 1);
        while (x.retract()) {
            counts(x, 4, 5, 5, 0);
        }
        parsed(x, ParserForge.OK, 1 - 1 - 1, 5, 1, 0, 1, 0, 1);
        parsed(x, ParserForge.ERROR, 0, 64 + 17, 1, 1);
        due("build() anew", x.build(), ParserForge.OK);
        counts(x, 3, 4, 2, 0);
        parsed(x, ParserForge.ERROR, 0, 0, 1, 1);
        due("rule 1 is skipped", x.tokens(), 0);
    }

    private static void parser(int states, int conflicts, int[]... productions) {
        ParserForge x = letters();
        grammar(x, productions);
        due("build()", x.build(), ParserForge.OK);
        due("built(2)", x.built(2), states);
        due("built(3)", x.built(3), conflicts);
    }

    private static void builtSetsAndClasses() {
        about("promise 10, sets and classes");
        ParserForge x = new ParserForge();
        // A text that ends with no 0 is in the class of the empty one.
        terms(x, 0, 4, 7, 0, 5);
        x.build();
        due("sets", x.built(0), 2);
        due("classes", x.built(1), 2);
        terms(x, 1, 1, 2, 6);
        x.build();
        due("sets of two rules", x.built(0), 4);
        due("classes of two rules", x.built(1), 4);
    }

    private static void builtStates() {
        about("promise 10, states");
        parser(5, 0, makes(10, 0, 0, 0));
        parser(7, 0, makes(10, 11, 11), makes(11, 0, 11), makes(11, 1));
    }

    private static void builtConflicts() {
        about("promise 10, conflicts");
        parser(3, 1, makes(10, 0), makes(10, 0));
        parser(5, 1, makes(10, 10, 0, 10), makes(10, 1));
        // A state before 0 with 3 productions to reduce there: 2 conflicts among these, 1 with the shift.
        ParserForge x = parserOf(makes(10, 11, 0), makes(10, 1, 0, 0), makes(11, 1), makes(11, 1), makes(11, 1));
        due("several", x.built(3), 3);
        x.rank(0, 1, 0);
        x.build();
        due("the terminal alone has a rank", x.built(3), 3);
        x.rank(1, 1, 0);
        x.build();
        due("the ranks settle the shift alone", x.built(3), 2);
        x.rank(0, 0, 0);
        x.build();
        due("the production alone has a rank", x.built(3), 3);
    }

    private static void putAndWipe() {
        about("promises 11 and 12");
        ParserForge x = letters();
        x.build();
        due("put(1)", x.put(1), true);
        due("put(2)", x.put(2), true);
        due("put(3)", x.put(3), true);
        due("the last one", x.token(2, 0), 3);
        due("wipe()", x.wipe(), 3);
        due("tokens()", x.tokens(), 0);
        x.put(2);
        due("the first one then", x.token(0, 0), 2);
    }

    private static void tokens() {
        about("promise 13");
        ParserForge x = new ParserForge();
        terms(x, 0, 0, 1, 5);
        terms(x, 1, 4);
        terms(x, 2, 0, 0, 5, 8);
        x.build();
        due("00 and 01", cut(x, 0, 0, 0, 1), "2:0-2 0:2-4");
        due("00, 0 and 2", cut(x, 0, 0, 0, 2), "2:0-2 1:2-3 1:3-4");
        terms(x, 1, 1, 2, 6);
        x.build();
        due("up to where it is stuck", cut(x, 0, 0, 0, 2), "2:0-2 !2");
        x.skip(2, true);
        x.build();
        due("without the skipped one", cut(x, 0, 0, 0, 2), "!2");
        due("stuck behind some", cut(x, 0, 0, 1, 2, 0, 1, 3, 1), "1:2-3 1:3-4 0:4-6 !6");
        terms(x, 1, 0, 7, 1, 6, 2, 5);
        x.clear(0);
        x.clear(2);
        x.build();
        due("none, some or one, then 2", cut(x, 2, 0, 0, 2, 1, 2, 0, 1, 2), "1:0-1 1:1-4 1:4-6 !6");
    }

    private static void token() {
        about("promise 14");
        ParserForge x = new ParserForge();
        terms(x, 2, 3, 8);
        terms(x, 1, 0, 8);
        x.skip(1, true);
        text(x, 3, 3, 0, 3, 1);
        x.build();
        int[] want = {2, 0, 2, 15, 2, 3, 4, 3};
        for (int i = 0; i < 8; i++) {
            due("token(" + i / 4 + ", " + i % 4 + ")", x.token(i / 4, i % 4), want[i]);
        }
        x.clear(2);
        due("by what was built", x.token(1, 1), 3);
    }

    private static void parseAnswers() {
        about("promise 15");
        ParserForge x = letters();
        x.clear(3);
        x.skip(2, true);
        x.produce(10, 0, 10, 1);
        x.produce(10, -1, -1, -1);
        text(x, 0, 1);
        due("parse()", x.parse(), ParserForge.UNBUILT);
        x.build();
        parsed(x, ParserForge.OK, 0, 1);
        parsed(x, ParserForge.OK, 2, 3, 0, 0, 1, 1);
        parsed(x, ParserForge.OK, 1, 2, 2, 0, 2, 2, 1, 2);
        parsed(x, ParserForge.ERROR, 0, 64 * 1 + 3, 0);
        parsed(x, ParserForge.ERROR, 0, 64 * 2 + 16, 0, 1, 1);
        parsed(x, ParserForge.STUCK, 0, 0, 3);
        // The scan is looked at first, though token 0 is an error already.
        parsed(x, ParserForge.STUCK, 0, 2, 1, 1, 3, 0);
        parsed(x, ParserForge.OK, 1, 2, 0, 1);
        // Before 1 the least production makes 12 of nothing, again and again.
        ParserForge y = parserOf(makes(10, 12, 10), makes(10, 11, 1), makes(12), makes(11));
        parsed(y, ParserForge.ENDLESS, 0, 0, 1);
        parsed(y, ParserForge.ERROR, 0, 2);
    }

    private static void parseLooksAhead() {
        about("promise 15, lookaheads");
        // The terminals that follow 12 anywhere have 0; its lookaheads where it is reduced behind 10's beginning don't.
        ParserForge x = parserOf(makes(10, 11, 0, 12), makes(10, 12), makes(11, 1, 12), makes(11, 2), makes(12, 11));
        due("no conflict", x.built(3), 0);
        parsed(x, ParserForge.OK, 6, 8, 1, 2, 0, 1, 2);
        // States that differ in lookaheads alone are one: the two ways to 2 meet, so that 2 conflicts are there.
        ParserForge y = parserOf(makes(10, 0, 11, 0), makes(10, 1, 11, 1), makes(10, 0, 12, 1), makes(10, 1, 12, 0),
            makes(11, 2), makes(12, 2));
        due("merged", y.built(3), 2);
        // Behind 11 comes 12, which may be empty: both what begins it and what follows it look ahead.
        ParserForge z = parserOf(makes(10, 11, 12, 0), makes(11, 3), makes(11), makes(12, 2), makes(12));
        due("no conflict", z.built(3), 0);
        parsed(z, ParserForge.OK, 0, 3, 0);
        parsed(z, ParserForge.OK, 5, 3, 3, 2, 0);
        parsed(z, ParserForge.ERROR, 0, 64 + 5, 3, 1);
        // 12 stands for nothing at all and no terminal begins it, so that 11 never sees its end.
        ParserForge w = parserOf(makes(10, 11, 12), makes(11, 0), makes(12, 12));
        parsed(w, ParserForge.ERROR, 0, 64, 0);
    }

    private static void parseByRank() {
        about("promise 15, ranks");
        // Letter 0 counts as a value too: a - b is a - 0 - b; a * b is a * 1 * b.
        ParserForge x = withRanks(1, 0, 2, 0);
        due("no conflict", x.built(3), 0);
        parsed(x, ParserForge.OK, 2 - 4, 5, 2, 0, 2, 1, 2);
        parsed(x, ParserForge.OK, 4 - 2, 5, 2, 1, 2, 0, 2);
        parsed(x, ParserForge.OK, -2, 5, 2, 0, 2, 0, 2);
        x = withRanks(2, 1, 1, 1);
        parsed(x, ParserForge.OK, 0, 5, 2, 0, 2, 1, 2);
        parsed(x, ParserForge.OK, 0, 5, 2, 1, 2, 0, 2);
        parsed(x, ParserForge.OK, 2, 5, 2, 0, 2, 0, 2);
        x = withRanks(5, 2, 5, 0);
        due("no conflict", x.built(3), 0);
        parsed(x, ParserForge.ERROR, 0, 64 * 3 + 16 + 2, 2, 0, 2, 0, 2);
        parsed(x, ParserForge.ERROR, 0, 64 * 3 + 16 + 2, 2, 1, 2, 0, 2);
        parsed(x, ParserForge.OK, 0, 5, 2, 0, 2, 1, 2);
        x = withRanks(0, 0, 1, 0);
        due("three conflicts", x.built(3), 3);
        parsed(x, ParserForge.OK, 2, 5, 2, 0, 2, 0, 2);
        // The last terminal of the production counts, not the first one, nor one behind it.
        ParserForge y = letters();
        grammar(y, makes(10, 0, 10), makes(10, 10, 1, 10), makes(10, 2), makes(10, 0, 1, 10));
        y.rank(0, 3, 0);
        y.rank(1, 2, 1);
        y.action(0, 2, 5);
        y.action(1, 1, 0);
        y.build();
        due("no conflict", y.built(3), 0);
        parsed(y, ParserForge.OK, 6, 4, 0, 2, 1, 2);
        parsed(y, ParserForge.OK, 5, 4, 0, 1, 2, 1, 2);
    }

    private static void value() {
        about("promise 16");
        ParserForge x = new ParserForge();
        terms(x, 0, 3, 8);
        terms(x, 1, 1);
        grammar(x, makes(10, 10, 1, 10), makes(10, 0), makes(10, 1, 10));
        x.action(0, 1, 7);
        x.action(2, 3, -100);
        x.rank(1, 1, 0);
        x.build();
        parsed(x, ParserForge.OK, 15, 1, 3, 3);
        parsed(x, ParserForge.OK, 15 * 63 + 7, 3, 3, 3, 1, 3, 3, 3);
        parsed(x, ParserForge.OK, (15 * 63 + 7) * 3 + 7, 5, 3, 3, 1, 3, 3, 3, 1, 3);
        parsed(x, ParserForge.OK, (15 - 100) * 3 + 7, 4, 1, 3, 3, 1, 3);
        x.wipe();
        x.clear(0);
        x.build();
        due("of the latest parse", x.value(), (15 - 100) * 3 + 7);
    }

    private static void place() {
        about("promise 17");
        ParserForge x = letters();
        x.clear(3);
        x.skip(2, true);
        x.produce(10, 10, 0, -1);
        x.produce(10, 1, -1, -1);
        x.parse();
        due("after UNBUILT", x.place(), -1);
        x.build();
        due("after build", x.place(), -1);
        parsed(x, ParserForge.STUCK, 0, 3, 1, 2, 0, 3);
        parsed(x, ParserForge.ERROR, 0, 2);
        parsed(x, ParserForge.ERROR, 0, 2, 2, 2, 0);
        parsed(x, ParserForge.ERROR, 0, 64 * 2 + 1 + 16, 1, 2, 0, 2, 2, 1);
        parsed(x, ParserForge.OK, 1, 3, 1, 0, 0);
        x.wipe();
        x.rule(0, 0);
        due("failing build", x.build(), ParserForge.RULES);
        due("of the latest parse", x.place(), 3);
        // The terminals are those of the state behind the reduces that the lookahead still allowed.
        ParserForge y = parserOf(makes(10, 0, 11, 0), makes(10, 1, 11, 1), makes(11, 2));
        parsed(y, ParserForge.ERROR, 0, 64 * 2 + 1, 0, 2, 1);
        parsed(y, ParserForge.ERROR, 0, 64 * 2 + 2, 1, 2, 0);
        parsed(y, ParserForge.ERROR, 0, 64 * 2 + 3, 1, 2, 3);
        parsed(y, ParserForge.ERROR, 0, 64 * 2 + 3, 1, 2);
        // Endless behind a token.
        ParserForge z = parserOf(makes(10, 0, 11), makes(11, 12, 11), makes(12), makes(11), makes(11, 1));
        parsed(z, ParserForge.ENDLESS, 0, 1, 0);
        parsed(z, ParserForge.OK, 1, 2, 0, 1);
    }
}
