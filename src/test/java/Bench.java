import java.util.ArrayList;
import java.util.Arrays;
import java.util.List;
import java.util.function.Consumer;
import java.util.function.ToIntFunction;

/** What the tests of the promises and of their edges share: calls in rows, and answers compared with what is due. */
abstract class Bench {
    static final int LOWEST = Integer.MIN_VALUE, HIGHEST = Integer.MAX_VALUE;

    /** Texts that tell groupings and actions of an object as CallEdgesTest uses it, and some that it can't parse. */
    private static final int[][] SEEN_TEXTS = {{}, {2}, {2, 0, 2, 1, 2}, {3, 0, 1, 0, 3, 0, 1, 0, 3, 0, 2},
        {3, 0, 1, 1, 3, 0, 2, 1, 3, 0, 1}, {3, 0, 2, 0, 3, 0, 1, 1, 3, 0, 1}, {3, 0, 1, 1, 3, 0, 1, 0, 3, 0, 2},
        {0, 0, 1, 1, 0, 2, 3, 3, 1, 2, 3, 0, 2, 2, 1, 3, 1, 0, 3, 2}};

    private static int wrong = 0;
    private static String promise = "";

    /** Names the promise, or the sentence of the document, that the next answers are about. */
    static void about(String name) {
        promise = name;
    }

    static void end() {
        System.exit(wrong == 0 ? 0 : 1);
    }

    static void due(String what, Object got, Object want) {
        if (!got.equals(want)) {
            wrong++;
            System.out.println(promise + ": " + what + " answered " + got + ", due is " + want);
        }
    }

    // ---- rules and texts

    static void terms(ParserForge x, int r, int... terms) {
        x.clear(r);
        for (int term : terms) {
            x.rule(r, term);
        }
    }

    /** Rule r matches just letter r. */
    static void letters(ParserForge x) {
        for (int r = 0; r < 4; r++) {
            terms(x, r, r);
        }
    }

    static ParserForge letters() {
        ParserForge x = new ParserForge();
        letters(x);
        return x;
    }

    static void text(ParserForge x, int... letters) {
        x.wipe();
        for (int letter : letters) {
            x.put(letter);
        }
    }

    static int[] times(int count, int letter) {
        int[] row = new int[count];
        Arrays.fill(row, letter);
        return row;
    }

    static int[] join(int[]... rows) {
        return Arrays.stream(rows).flatMapToInt(Arrays::stream).toArray();
    }

    // ---- grammars

    /** A production as produce takes it, with -1 for what is missing on the right side. */
    static int[] makes(int left, int... right) {
        int[] p = {left, -1, -1, -1};
        System.arraycopy(right, 0, p, 1, right.length);
        return p;
    }

    static void grammar(ParserForge x, int[]... productions) {
        while (x.retract()) {
            continue;
        }
        for (int[] p : productions) {
            x.produce(p[0], p[1], p[2], p[3]);
        }
    }

    /** A parser of the productions, built, for texts whose letters are the terminals. */
    static ParserForge parserOf(int[]... productions) {
        ParserForge x = letters();
        grammar(x, productions);
        due("build()", x.build(), ParserForge.OK);
        return x;
    }

    /** 10 makes 10 0 10 (the first minus the others), 10 1 10 (the product) and 2. */
    static ParserForge withRanks(int rank0, int grouping0, int rank1, int grouping1) {
        ParserForge x = letters();
        grammar(x, makes(10, 10, 0, 10), makes(10, 10, 1, 10), makes(10, 2));
        x.action(0, 2, 0);
        x.action(1, 1, 0);
        x.rank(0, rank0, grouping0);
        x.rank(1, rank1, grouping1);
        x.build();
        return x;
    }

    static void statesOf40(ParserForge x) {
        grammar(x, makes(12, 1, 0, 1), makes(11, 11, 10, 11), makes(12, 11, 12, 12), makes(10, 10, 0, 12),
            makes(12, 10, 12, 11), makes(10, 1, 1, 12), makes(10, 0, 1, 1), makes(11, 0, 1, 10));
    }

    static void statesOf41(ParserForge x) {
        grammar(x, makes(11, 12, 11, 12), makes(12, 0, 1, 10), makes(11, 0, 12, 11), makes(12, 1, 1, 11),
            makes(10, 12, 1, 0), makes(12, 0, 0, 1), makes(11, 1, 11, 11), makes(10, 1, 0, 11));
    }

    static void setsOf60(ParserForge x) {
        terms(x, 0, 2, 3, 6, 8, 4, 5, 2, 5);
        terms(x, 1, 4, 7, 3, 5, 4, 5, 4, 5);
        terms(x, 2, 4, 7, 0, 5, 4, 5, 2, 5);
        terms(x, 3, 4, 7, 2, 5, 4, 5, 7);
    }

    static void setsOf61(ParserForge x) {
        terms(x, 0, 4, 7, 3, 5, 4, 5, 4, 5);
        terms(x, 1, 3, 0, 6, 8, 4, 5, 4, 5);
        terms(x, 2, 4, 7, 1, 5, 3, 5, 3, 5);
        terms(x, 3, 4, 7, 2, 5, 3, 5, 4, 5);
    }

    // ---- what an object answers

    static void parsed(ParserForge x, int answer, int value, int place, int... letters) {
        text(x, letters);
        due("parse()", x.parse(), answer);
        due("value()", x.value(), value);
        due("place()", x.place(), place);
    }

    static void counts(ParserForge x, int sets, int classes, int states, int conflicts) {
        due("built(0)", x.built(0), sets);
        due("built(1)", x.built(1), classes);
        due("built(2)", x.built(2), states);
        due("built(3)", x.built(3), conflicts);
    }

    /** The tokens of the letters, each as rule:begin-end, and where the scan is stuck, as !place. */
    static String cut(ParserForge x, int... letters) {
        text(x, letters);
        List<String> parts = new ArrayList<>();
        int count = x.tokens();
        for (int k = 0; k < count; k++) {
            parts.add(x.token(k, 0) + ":" + x.token(k, 1) + "-" + x.token(k, 2));
        }
        if (x.parse() == ParserForge.STUCK) {
            parts.add("!" + x.place());
        }
        return String.join(" ", parts);
    }

    /** A call that must be refused with the answer, and after which all is as if it had not been made. */
    static void refused(String call, Consumer<ParserForge> before, ToIntFunction<ParserForge> refused, int answer) {
        ParserForge x = new ParserForge();
        ParserForge y = new ParserForge();
        before.accept(x);
        before.accept(y);
        due(call, refused.applyAsInt(x), answer);
        due("what is seen after " + call, allThatIsSeen(x), allThatIsSeen(y));
    }

    static int bit(boolean answer) {
        return answer ? 1 : 0;
    }

    private static List<Integer> allThatIsSeen(ParserForge x) {
        List<Integer> seen = new ArrayList<>(List.of(x.value(), x.place()));
        addWhatIsBuilt(x, seen);
        seen.add(x.build());
        addWhatIsBuilt(x, seen);
        seen.add(x.wipe());
        for (int[] letters : SEEN_TEXTS) {
            text(x, letters);
            addWhatIsBuilt(x, seen);
        }
        seen.add(x.produce(10, -1, -1, -1));
        while (x.retract()) {
            seen.add(1);
        }
        for (int r = 0; r < 4; r++) {
            seen.add(x.clear(r));
        }
        return seen;
    }

    private static void addWhatIsBuilt(ParserForge x, List<Integer> seen) {
        for (int what = 0; what < 4; what++) {
            seen.add(x.built(what));
        }
        int count = x.tokens();
        seen.add(count);
        for (int i = 0; i < count * 4; i++) {
            seen.add(x.token(i / 4, i % 4));
        }
        seen.addAll(List.of(x.parse(), x.value(), x.place()));
    }
}
