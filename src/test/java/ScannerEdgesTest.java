/** A test of its own for each sentence of "Terms" on letters, rules, sets, classes and tokens that names an edge. */
public final class ScannerEdgesTest extends Bench {
    public static void main(String[] args) {
        lettersAndText();
        rowsOfTerms();
        letterTerms();
        then();
        or();
        anyNumberOfTimes();
        onceOrMore();
        onceOrNotAtAll();
        termsFindWhatTheyTake();
        termsLeaveJustOne();
        emptyRuleIsLeftOut();
        noRuleMatchesNothing();
        setsOfTextsThatAreNotEmpty();
        setsOfAllPlaces();
        setsOfWaysThroughTheWholeText();
        classOfTheEmptyText();
        classesOfTextsThatLeadToAMatch();
        classesByTheLeastRule();
        classesByEveryTextBehind();
        longestPart();
        leastRule();
        stuckWhereThereIsNone();
        skippedOnes();
        numberOfAToken();
        numberWraps();
        end();
    }

    private static ParserForge scannerOf(int[]... rules) {
        ParserForge x = new ParserForge();
        for (int r = 0; r < rules.length; r++) {
            terms(x, r, rules[r]);
        }
        due("build()", x.build(), ParserForge.OK);
        return x;
    }

    private static int[] row(int... numbers) {
        return numbers;
    }

    private static void matches(boolean want, int[] terms, int... letters) {
        ParserForge x = scannerOf(terms);
        text(x, letters);
        due("one token of all " + letters.length + " letters", x.token(0, 2) == letters.length, want);
    }

    private static void scanner(int sets, int classes, int[]... rules) {
        ParserForge x = scannerOf(rules);
        due("built(0)", x.built(0), sets);
        due("built(1)", x.built(1), classes);
    }

    private static void malformed(int... terms) {
        for (int r = 0; r < 4; r++) {
            ParserForge x = letters();
            terms(x, r, terms);
            due("build() with a rule of " + terms.length + " terms", x.build(), ParserForge.RULES);
        }
    }

    // ---- rules

    private static void lettersAndText() {
        about("LETTERS are 0..3; the TEXT has at most 20");
        ParserForge x = letters();
        x.build();
        int[] letters = new int[21];
        for (int i = 0; i < 21; i++) {
            letters[i] = i % 4;
        }
        text(x, letters);
        due("tokens()", x.tokens(), 20);
        for (int i = 0; i < 20; i++) {
            due("the rule of letter " + i, x.token(i, 0), i % 4);
        }
    }

    private static void rowsOfTerms() {
        about("RULES 0..3 are rows of at most 8 TERMS");
        ParserForge x = scannerOf(row(0, 0, 5, 0, 5, 0, 5, 8), row(1, 1, 5, 1, 5, 1, 5, 8),
            row(2, 2, 5, 2, 5, 2, 5, 8), row(3, 3, 5, 3, 5, 3, 5, 8));
        due("built(0)", x.built(0), 16);
        int[] letters = join(times(4, 3), times(8, 0), times(4, 2), times(4, 1));
        due("the tokens", cut(x, letters), "3:0-4 0:4-12 2:12-16 1:16-20");
    }

    private static void letterTerms() {
        about("0..3 that letter, 4 any letter");
        for (int letter = 0; letter < 4; letter++) {
            for (int term = 0; term < 5; term++) {
                matches(term == letter || term == 4, row(term), letter);
                matches(false, row(term), letter, letter);
            }
        }
    }

    private static void then() {
        about("5 then: the one followed by the other");
        int[] terms = {0, 1, 5};
        matches(true, terms, 0, 1);
        matches(false, terms, 1, 0);
        matches(false, terms, 0);
        matches(false, terms, 0, 1, 0, 1);
        // Where the one, the other or both can be nothing.
        matches(true, row(0, 9, 1, 5), 1);
        matches(true, row(0, 1, 9, 5), 0);
        matches(true, row(0, 9, 1, 9, 5), 0);
        matches(true, row(0, 9, 1, 9, 5), 1);
        matches(true, row(0, 9, 1, 9, 5), 0, 1);
        matches(false, row(0, 9, 1, 9, 5), 1, 0);
        matches(true, row(0, 9, 1, 9, 5, 2, 5), 2);
        matches(true, row(2, 0, 9, 1, 9, 5, 5), 2);
        // That a part of another rule can be nothing, or one before of the same rule, says nothing of a letter.
        due("behind another rule", cut(scannerOf(row(0, 9), row(0, 1, 5)), 0, 1, 1), "1:0-2 !2");
        matches(false, row(0, 1, 9, 5, 2, 5, 3, 5), 0, 3);
    }

    private static void or() {
        about("6 or");
        int[] terms = {0, 1, 6};
        matches(true, terms, 0);
        matches(true, terms, 1);
        matches(false, terms, 2);
        matches(false, terms, 0, 1);
        matches(true, row(0, 9, 1, 6, 2, 5), 2);
        matches(true, row(0, 1, 9, 6, 2, 5), 2);
        matches(false, row(0, 1, 6, 2, 5), 2);
    }

    private static void anyNumberOfTimes() {
        about("7 any number of times");
        for (int count = 1; count <= 20; count++) {
            matches(true, row(0, 7), times(count, 0));
            matches(count % 2 == 0, row(0, 0, 5, 7), times(count, 0));
            matches(true, row(0, 7, 1, 5), join(times(count - 1, 0), row(1)));
        }
        matches(true, row(1, 0, 7, 5), 1);
        matches(false, row(0, 7, 1, 5), 0);
    }

    private static void onceOrMore() {
        about("8 once or more");
        for (int count = 1; count <= 20; count++) {
            matches(true, row(0, 8), times(count, 0));
            matches(count > 1, row(0, 8, 1, 5), join(times(count - 1, 0), row(1)));
            matches(count > 1, row(1, 0, 8, 5), join(row(1), times(count - 1, 0)));
        }
        matches(true, row(0, 9, 8, 1, 5), 1);
        matches(true, row(0, 9, 8, 1, 5), 0, 0, 1);
    }

    private static void onceOrNotAtAll() {
        about("9 once or not at all");
        matches(true, row(0, 9, 1, 5), 1);
        matches(true, row(0, 9, 1, 5), 0, 1);
        matches(false, row(0, 9, 1, 5), 0, 0, 1);
        matches(true, row(0, 8, 9, 1, 5), 0, 0, 1);
        matches(true, row(0, 8, 9, 1, 5), 1);
    }

    private static void termsFindWhatTheyTake() {
        about("WELL FORMED: its terms, carried out in order, always find what they take");
        for (int term = 5; term < 10; term++) {
            malformed(term);
            // What comes later is not found.
            malformed(term, 0);
            malformed(term, 0, 1);
        }
        malformed(0, 5);
        malformed(0, 6);
        malformed(0, 5, 1);
        malformed(0, 6, 1);
        malformed(0, 7, 5);
        malformed(0, 1, 5, 5);
        malformed(0, 1, 6, 6, 2);
        malformed(0, 1, 5, 2, 5, 3, 5, 5);
        scanner(1, 2, row(0, 7));
        scanner(2, 3, row(0, 1, 5));
    }

    private static void termsLeaveJustOne() {
        about("WELL FORMED: and leave just one expression");
        malformed(0, 1);
        malformed(0, 0);
        malformed(0, 1, 7);
        malformed(0, 1, 2, 5);
        malformed(0, 1, 5, 2, 3, 6);
        malformed(0, 1, 2, 3, 0, 5, 5, 5);
        malformed(0, 0, 0, 0, 0, 0, 0, 0);
        scanner(4, 5, row(0, 1, 2, 3, 5, 5, 5, 9));
        scanner(1, 2, row(0));
    }

    private static void emptyRuleIsLeftOut() {
        about("an empty rule is left out everywhere");
        for (int r = 0; r < 4; r++) {
            ParserForge x = letters();
            x.clear(r);
            due("build()", x.build(), ParserForge.OK);
            due("built(0)", x.built(0), 3);
            due("built(1)", x.built(1), 4);
            int other = (r + 1) % 4;
            due("the others keep their numbers", cut(x, other, r), other + ":0-1 !1");
        }
        // As a terminal it still is one, which never comes.
        ParserForge x = letters();
        x.clear(2);
        grammar(x, makes(10, 2), makes(10, 1));
        x.build();
        parsed(x, ParserForge.ERROR, 0, 2 + 4, 0);
        parsed(x, ParserForge.OK, 1, 1, 1);
    }

    private static void noRuleMatchesNothing() {
        about("a rule MATCHES a text if the text is not empty");
        for (int term : new int[] {7, 9}) {
            ParserForge x = scannerOf(row(0, term), row(1));
            due("of no text", cut(x), "");
            due("no token of nothing between others", cut(x, 1, 1), "1:0-1 1:1-2");
            due("nor where it is stuck", cut(x, 0, 2), "0:0-1 !1");
            due("built(0)", x.built(0), 2);
            due("built(1), the empty text is not in a class of matched ones", x.built(1), 3);
        }
        scanner(2, 3, row(0, 7), row(1, 7));
    }

    // ---- sets and classes

    private static void setsOfTextsThatAreNotEmpty() {
        about("after reading a text that is not empty the SET");
        scanner(0, 0);
        scanner(1, 2, row(3));
        scanner(1, 2, row(3, 7));
        scanner(2, 3, row(3, 3, 5));
    }

    private static void setsOfAllPlaces() {
        about("the letter terms (0..4) of all rules are its PLACES");
        // The same letter at two places makes one set of both, or two that are apart.
        scanner(1, 2, row(0), row(0));
        scanner(2, 3, row(0, 0, 6), row(0, 8), row(0, 7), row(0, 9));
        scanner(2, 3, row(0, 0, 5));
        scanner(2, 2, row(4), row(3), row(3, 4, 6));
        ParserForge x = scannerOf(row(0, 1, 2, 3, 5, 5, 5), row(1, 2, 3, 0, 5, 5, 5), row(2, 3, 0, 1, 5, 5, 5),
            row(3, 0, 1, 2, 5, 5, 5));
        due("16 places, each alone", x.built(0), 16);
        ParserForge y = scannerOf(row(4, 4, 4, 4, 5, 5, 5), row(4, 4, 4, 4, 5, 5, 5), row(4, 4, 4, 4, 5, 5, 5),
            row(4, 4, 4, 4, 5, 5, 5));
        due("16 places, four at a time", y.built(0), 4);
    }

    private static void setsOfWaysThroughTheWholeText() {
        about("by a way through one of the rules that reads the whole text up to there");
        // The 2 is never read behind 1, so that the sets are those of 0, 1, 02 and 13.
        scanner(4, 4, row(0, 2, 5, 1, 3, 5, 6));
        // Behind 00 the second place alone.
        scanner(2, 3, row(0, 0, 5), row(0));
        // The empty set is not one: 1 is read nowhere.
        scanner(1, 2, row(0, 8));
    }

    private static void classOfTheEmptyText() {
        about("the CLASSES: two texts that are empty or have a set that is not empty");
        // The empty text is in a class of its own,
        scanner(1, 2, row(0));
        scanner(1, 2, row(0, 8));
        // or with all that can go on just as it does.
        scanner(2, 2, row(0, 7, 1, 5));
        scanner(3, 2, row(0, 1, 6, 7, 2, 5));
        scanner(3, 3, row(0, 1, 5, 7, 2, 5));
        // Texts whose set is empty are in none.
        scanner(4, 5, row(0), row(1), row(2), row(3));
    }

    private static void classesOfTextsThatLeadToAMatch() {
        about("behind which some text (perhaps none) follows such that a rule matches both together");
        // Without a rule that is so of no text, the empty one neither.
        ParserForge x = scannerOf();
        due("built(1)", x.built(1), 0);
        terms(x, 3, 0);
        x.build();
        due("built(1) with a rule", x.built(1), 2);
        x.clear(3);
        x.build();
        due("built(1) without again", x.built(1), 0);
    }

    private static void classesByTheLeastRule() {
        about("the least rule that matches is the same, or none for both");
        // Rule 1 matches nothing that rule 0 does not.
        scanner(2, 2, row(4), row(1));
        scanner(2, 3, row(1), row(4));
        // Behind 0 and behind 1 the same rules match, but they are matched by different ones themselves.
        scanner(2, 3, row(0), row(1));
        scanner(2, 2, row(0, 1, 6));
        scanner(5, 5, row(0, 2, 5), row(1, 3, 5, 0, 3, 5, 6));
    }

    private static void classesByEveryTextBehind() {
        about("for every such text behind them (none too)");
        // Just none tells 0 from 00.
        scanner(2, 3, row(0, 0, 5, 7));
        // The empty text and 0: just what follows tells them apart, three letters later.
        scanner(4, 5, row(0, 0, 5, 0, 5, 0, 5));
        scanner(4, 5, row(0, 0, 5, 0, 5, 0, 5, 7));
        // What tells 0 from 1, and 2 from 3, is nothing that follows.
        scanner(4, 3, row(0, 1, 6, 2, 3, 6, 5));
        scanner(8, 5, row(0, 1, 6, 2, 3, 6, 5), row(2, 3, 6, 0, 1, 6, 5));
    }

    // ---- tokens

    private static void longestPart() {
        about("TOKENS: always the longest part that some rule matches is taken off");
        ParserForge x = scannerOf(row(0), row(0, 1, 5, 2, 5, 3, 5), row(1, 8), row(2));
        due("through parts that none matches", cut(x, 0, 1, 2, 3), "1:0-4");
        due("back to the last match", cut(x, 0, 1, 2, 0), "0:0-1 2:1-2 3:2-3 0:3-4");
        due("back at the end of the text", cut(x, 0, 1, 2), "0:0-1 2:1-2 3:2-3");
        due("a greater rule that is longer", cut(x, 0, 0, 1, 2, 3, 1, 1), "0:0-1 1:1-5 2:5-7");
        ParserForge y = scannerOf(row(4, 7));
        for (int length = 1; length <= 20; length++) {
            due("all " + length, cut(y, times(length, 2)), "0:0-" + length);
        }
    }

    private static void leastRule() {
        about("TOKENS: as a token of the least of the rules that match it");
        for (int first = 0; first < 4; first++) {
            ParserForge x = new ParserForge();
            for (int r = first; r < 4; r++) {
                terms(x, r, 1, 8);
            }
            x.build();
            due("the token", cut(x, 1, 1), first + ":0-2");
        }
        ParserForge x = scannerOf(row(0, 1, 5), row(0, 4, 5), row(4, 4, 5), row(4));
        due("each its own", cut(x, 0, 1, 0, 0, 1, 1, 1), "0:0-2 1:2-4 2:4-6 3:6-7");
    }

    private static void stuckWhereThereIsNone() {
        about("TOKENS: if there is none, the scan is STUCK there");
        ParserForge x = scannerOf(row(0), row(1, 2, 5));
        due("at the beginning", cut(x, 3, 0), "!0");
        due("in the midst", cut(x, 0, 1, 2, 3, 0), "0:0-1 1:1-3 !3");
        due("at a part that is not complete", cut(x, 0, 1), "0:0-1 !1");
        due("at a part that goes wrong", cut(x, 0, 1, 0), "0:0-1 !1");
        due("at the last letter", cut(x, join(times(19, 0), row(3))).endsWith("0:18-19 !19"), true);
        due("not at the end of the text", cut(x, 0, 1, 2), "0:0-1 1:1-3");
        due("not without letters", cut(x), "");
        due("without rules", cut(scannerOf(), 0), "!0");
    }

    private static void skippedOnes() {
        about("TOKENS: tokens of a rule that is SKIPPED are left out");
        ParserForge x = scannerOf(row(0, 8), row(0, 1, 6), row(2));
        x.skip(0, true);
        x.produce(10, 2, 1, -1);
        x.produce(10, -1, -1, -1);
        x.build();
        // The skipped rule still is the least one, and the longest.
        due("the tokens", cut(x, 0, 2, 0, 0, 1, 0), "2:1-2 1:4-5");
        due("of skipped ones alone", cut(x, times(20, 0)), "");
        due("stuck behind a skipped one", cut(x, 0, 0, 3), "!2");
        parsed(x, ParserForge.OK, 2 + 1, 1, 0, 2, 0, 0, 1, 0);
        parsed(x, ParserForge.OK, 0, 1, 0, 0);
        parsed(x, ParserForge.ERROR, 0, 64 + 2, 0, 2, 0, 0);
    }

    private static void numbered(int want, int... letters) {
        ParserForge x = scannerOf(row(4, 7));
        text(x, letters);
        due("the number of " + letters.length + " letters", x.token(0, 3), want);
    }

    private static void numberOfAToken() {
        about("the NUMBER of a token is its letters as digits base 4");
        for (int letter = 0; letter < 4; letter++) {
            numbered(letter, letter);
            numbered(letter * 4 + 1, letter, 1);
        }
        numbered(0, times(20, 0));
        numbered(1 * 64 + 2 * 16 + 3 * 4, 1, 2, 3, 0);
        numbered(0x3FFFFFFF, times(15, 3));
        ParserForge x = letters();
        x.build();
        text(x, 3, 1);
        due("of its letters alone", x.token(1, 3), 1);
    }

    private static void numberWraps() {
        about("the NUMBER of a token: wrapping");
        numbered(HIGHEST, join(row(1), times(15, 3)));
        numbered(LOWEST, join(row(2), times(15, 0)));
        numbered(-1, times(16, 3));
        numbered(0, join(row(1), times(16, 0)));
        numbered(1, join(row(3), times(15, 0), row(1)));
        numbered(-2, join(times(19, 3), row(2)));
    }
}
