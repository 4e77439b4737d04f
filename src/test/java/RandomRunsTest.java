import java.util.ArrayList;
import java.util.List;

/** Runs of calls drawn from a fixed seed, each answer compared with that of NaiveForge. */
public final class RandomRunsTest {
    private static final int RUNS = 400;

    private static long seed;
    private static int wrong = 0;
    private static final int[] buildAnswers = new int[3];
    private static final int[] parseAnswers = new int[7];

    private ParserForge made;
    private NaiveForge naive;
    private final List<String> calls = new ArrayList<>();
    private boolean letterRules;
    private boolean heavyRules;
    private final List<int[]> productions = new ArrayList<>();

    public static void main(String[] args) {
        int runs = args.length > 0 ? Integer.parseInt(args[0]) : RUNS;
        for (int run = 0; run < runs && wrong < 5; run++) {
            seed = 77L + run * 7919L;
            new RandomRunsTest().run(run);
        }
        for (int answer : new int[] {ParserForge.OK, ParserForge.RULES, ParserForge.MANY}) {
            mustHaveSeen("build", answer, buildAnswers[answer]);
        }
        for (int answer : new int[] {0, 3, 4, 5, 6}) {
            mustHaveSeen("parse", answer, parseAnswers[answer]);
        }
        System.exit(wrong == 0 ? 0 : 1);
    }

    private static void mustHaveSeen(String call, int answer, int times) {
        if (times == 0 && wrong == 0) {
            wrong++;
            System.out.println("no run had " + call + " answer " + answer + ": the runs are too tame");
        }
    }

    private static int draw(int limit) {
        seed = seed * 6364136223846793005L + 1442695040888963407L;
        return (int) ((seed >>> 33) % limit);
    }

    private boolean same(String call, int got, int want) {
        calls.add(call + " " + want);
        if (got == want) {
            return true;
        }
        wrong++;
        System.out.println(call + " answered " + got + ", due is " + want + "; the calls so far: " + calls);
        return false;
    }

    private static int bit(boolean answer) {
        return answer ? 1 : 0;
    }

    private void run(int run) {
        made = new ParserForge();
        naive = new NaiveForge();
        letterRules = draw(3) > 0;
        heavyRules = draw(6) == 0;
        if (draw(10) == 0) {
            parse();
        }
        fillRules();
        fillGrammar();
        int rounds = 2 + draw(3);
        for (int i = 0; i < rounds && wrong == 0; i++) {
            build();
            for (int j = 0; j < 6; j++) {
                fillText();
                if (draw(3) == 0) {
                    askTokens();
                }
                parse();
                int calls = draw(4);
                for (int k = 0; k < calls; k++) {
                    change();
                }
            }
            if (draw(4) == 0) {
                fillRules();
            }
            if (draw(3) == 0) {
                fillGrammar();
            }
        }
    }

    private void term(int r, int term) {
        same("rule(" + r + ", " + term + ")", bit(made.rule(r, term)), bit(naive.rule(r, term)));
    }

    private void fillRules() {
        for (int r = 0; r < 4; r++) {
            same("clear(" + r + ")", made.clear(r), naive.clear(r));
            if (letterRules) {
                term(r, r);
                if (draw(6) == 0) {
                    term(r, 8);
                }
            } else if (draw(5) > 0) {
                fillRule(r);
            }
        }
    }

    private void fillRule(int r) {
        if (heavyRules && draw(6) > 0) {
            // Rules of this shape have many sets together.
            for (int term : new int[] {4, 7, r, 5, 4, 5, 4 - draw(3) / 2, 5}) {
                term(r, term);
            }
            return;
        }
        int depth = 0;
        int length = 1 + draw(8);
        for (int i = 0; i < length; i++) {
            int rest = length - i;
            int term;
            if (depth == 0 || depth < rest && draw(2) == 0) {
                term = draw(5);
            } else if (depth > 1 && (depth >= rest || draw(2) == 0)) {
                term = 5 + draw(2);
            } else {
                term = 7 + draw(3);
            }
            if (draw(120) == 0) {
                term = draw(12) - 1;
            }
            depth += term < 5 ? 1 : term < 7 ? -1 : 0;
            term(r, term);
        }
    }

    private void fillGrammar() {
        while (draw(20) > 0 && !productions.isEmpty()) {
            retract();
        }
        int count = 1 + draw(8);
        int style = draw(3);
        for (int i = 0; i < count; i++) {
            produce(style, i);
        }
        for (int t = 0; t < 4; t++) {
            if (draw(2) == 0) {
                rank(t, draw(6), draw(3));
            }
        }
        for (int i = 0; i < 4; i++) {
            action();
        }
    }

    private int symbol(int style) {
        int kind = draw(100);
        if (kind == 0) {
            return draw(16) - 2;
        }
        return kind < 45 ? 10 + draw(style == 0 ? 1 : 3) : draw(4);
    }

    private void produce(int style, int i) {
        int left = i == 0 ? 10 : 10 + draw(3);
        int length = draw(4);
        int[] p = {left, -1, -1, -1};
        for (int k = 1; k <= length; k++) {
            p[k] = symbol(style);
        }
        if (style == 0 && length == 3) {
            p[1] = left;
            p[2] = draw(4);
            p[3] = left;
        }
        int got = made.produce(p[0], p[1], p[2], p[3]);
        int want = naive.produce(p[0], p[1], p[2], p[3]);
        same("produce(" + p[0] + ", " + p[1] + ", " + p[2] + ", " + p[3] + ")", got, want);
        if (want >= 0) {
            productions.add(p);
        }
    }

    private void retract() {
        boolean want = naive.retract();
        same("retract()", bit(made.retract()), bit(want));
        if (want) {
            productions.remove(productions.size() - 1);
        }
    }

    private void rank(int t, int rank, int grouping) {
        boolean got = made.rank(t, rank, grouping);
        same("rank(" + t + ", " + rank + ", " + grouping + ")", bit(got), bit(naive.rank(t, rank, grouping)));
    }

    private void action() {
        int p = draw(9);
        int op = draw(40) == 0 ? draw(9) - 3 : draw(4);
        int c = draw(10) == 0 ? Integer.MAX_VALUE - draw(5) : draw(7) - 3;
        same("action(" + p + ", " + op + ", " + c + ")", bit(made.action(p, op, c)), bit(naive.action(p, op, c)));
    }

    private void skip(int r, boolean on) {
        same("skip(" + r + ", " + on + ")", bit(made.skip(r, on)), bit(naive.skip(r, on)));
    }

    private void change() {
        switch (draw(6)) {
            case 0 -> skip(draw(4), draw(2) == 0);
            case 1 -> retract();
            case 2 -> produce(1, 1);
            case 3 -> rank(draw(4), draw(6), draw(3));
            case 4 -> action();
            default -> build();
        }
    }

    private void build() {
        int want = naive.build();
        buildAnswers[want]++;
        same("build()", made.build(), want);
        for (int what = 0; what < 4; what++) {
            same("built(" + what + ")", made.built(what), naive.built(what));
        }
    }

    private void fillText() {
        same("wipe()", made.wipe(), naive.wipe());
        List<Integer> letters = letterRules && draw(4) > 0 ? sentence() : randomLetters();
        for (int letter : letters) {
            same("put(" + letter + ")", bit(made.put(letter)), bit(naive.put(letter)));
        }
    }

    private static List<Integer> randomLetters() {
        List<Integer> letters = new ArrayList<>();
        int length = draw(22);
        int kinds = 1 + draw(4);
        for (int i = 0; i < length; i++) {
            letters.add(draw(kinds));
        }
        return letters;
    }

    /** A row of terminals that the grammar makes of 10, as far as the draws come to an end, else a piece of it. */
    private List<Integer> sentence() {
        List<Integer> row = new ArrayList<>(List.of(10));
        for (int i = 0; i < 60 && row.size() < 24; i++) {
            int at = 0;
            while (at < row.size() && row.get(at) < 10) {
                at++;
            }
            if (at == row.size()) {
                break;
            }
            expand(row, at);
        }
        row.removeIf(symbol -> symbol >= 10);
        if (!row.isEmpty() && draw(6) == 0) {
            row.set(draw(row.size()), draw(4));
        }
        return row;
    }

    private void expand(List<Integer> row, int at) {
        int left = row.remove(at);
        List<int[]> fitting = new ArrayList<>(productions);
        fitting.removeIf(p -> p[0] != left);
        if (fitting.isEmpty()) {
            return;
        }
        int[] p = fitting.get(draw(fitting.size()));
        for (int k = 3; k > 0; k--) {
            if (p[k] >= 0) {
                row.add(at, p[k]);
            }
        }
    }

    private void askTokens() {
        int count = naive.tokens();
        same("tokens()", made.tokens(), count);
        for (int k = -1; k <= count; k++) {
            for (int what = -1; what <= 4; what++) {
                same("token(" + k + ", " + what + ")", made.token(k, what), naive.token(k, what));
            }
        }
    }

    private void parse() {
        int want = naive.parse();
        parseAnswers[want]++;
        same("parse()", made.parse(), want);
        same("value()", made.value(), naive.value());
        same("place()", made.place(), naive.place());
    }
}
