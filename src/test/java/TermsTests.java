import java.util.ArrayList;
import java.util.List;

/**
 * The sentences of the document's "Terms", told of games of each kind by the class's own answers:
 * what a state is must follow from what its bites lead to, whoever says what those are.
 */
final class TermsTests {
    private static final int NONE = -1, NOT = -1003;
    private static final int MOST_GAMES = 6;

    private interface Source {
        BittenBoards made();
    }

    /** What the class answers of a state that a bite leads to. */
    private static final class Next {
        final int state;
        final int left;
        final boolean isLost;
        final int worth;
        final int length;

        Next(BittenBoards x) {
            state = x.told(0, 5);
            left = x.told(0, 2);
            isLost = x.won(0) == 0;
            worth = x.worth(0);
            length = x.length(0);
        }
    }

    private final Checks checks;

    private TermsTests(Checks checks) {
        this.checks = checks;
    }

    static void run(Checks checks) {
        TermsTests tests = new TermsTests(checks);
        for (int k = 0; k <= 1; k++) {
            int rule = k;
            tests.playOut("7 x 7", () -> Made.rows(7, 7, rule));
            tests.playOut("3 x 5", () -> Made.rows(3, 5, rule));
            tests.playOut("1 x 7", () -> Made.rows(1, 7, rule));
            tests.playOut("stairs", () -> Made.board(rule, 7, 6, 5, 4, 3, 2, 1));
            tests.playOut("3, 1, 1", () -> Made.board(rule, 3, 1, 1, 0, 0, 0, 0));
            tests.playOut("no square", () -> Made.board(rule, 0, 0, 0, 0, 0, 0, 0));
            tests.playOut("twelve apart", () -> Made.order(12, rule));
            tests.playOut("chain", () -> Made.chain(12, rule));
            tests.playOut("divisors of 60", () -> divisors(60, rule));
            tests.playOut("divisors of 36", () -> divisors(36, rule));
            tests.playOut("two trees", () -> twoTrees(rule));
            tests.playOut("full net", () -> Made.fullNet(rule));
            tests.playOut("ring of three", () -> ringOfThree(rule));
            tests.playOut("posts alone", () -> Made.net(6, rule));
        }
        tests.sums();
    }

    private static BittenBoards divisors(int n, int rule) {
        BittenBoards x = new BittenBoards();
        x.divisors(n, rule);
        return x;
    }

    private static BittenBoards twoTrees(int rule) {
        BittenBoards x = Made.order(11, rule);
        for (int k = 1; k < 11; k++) {
            if (k != 5) {
                x.below(0, k < 5 ? (k - 1) / 2 : k, k < 5 ? k : 5);
            }
        }
        return x;
    }

    private static BittenBoards ringOfThree(int rule) {
        BittenBoards x = Made.net(4, rule);
        for (int k = 0; k < 3; k++) {
            x.road(0, k, (k + 1) % 3);
        }
        x.road(0, 3, 0);
        return x;
    }

    /** The house bites for both, all states on the way are looked at; then all is taken back. */
    private void playOut(String name, Source source) {
        BittenBoards x = source.made();
        List<Integer> path = new ArrayList<>();
        List<Integer> states = new ArrayList<>();
        while (x.told(0, 3) > 0) {
            states.add(x.told(0, 5));
            List<Next> next = lookAt(name, source, path);
            int i = x.answer(0);
            checks.due(name + ": THE ANSWER", i, answerOf(next));
            checks.due(name + ": it is done", x.told(0, 5), next.get(i).state);
            checks.due(name + ": it is noted", x.noted(0, path.size()), i);
            path.add(i);
        }
        lookAt(name, source, path);
        checks.due(name + ": it has ended", x.answer(0), NOT);
        for (int k = path.size() - 1; k >= 0; k--) {
            checks.due(name + ": taken back", x.back(0), k);
            checks.due(name + ": the state before", x.told(0, 5), states.get(k));
        }
    }

    private static BittenBoards replayed(Source source, List<Integer> path) {
        BittenBoards x = source.made();
        for (int i : path) {
            x.play(0, i);
        }
        return x;
    }

    private List<Next> lookAt(String name, Source source, List<Integer> path) {
        String at = name + " after " + path;
        List<Next> next = new ArrayList<>();
        BittenBoards x = replayed(source, path);
        int bites = x.told(0, 3);
        for (int i = 0; i < bites; i++) {
            x.play(0, i);
            next.add(new Next(x));
            x.back(0);
        }
        checks.due(at + ": WON", x.won(0), isWon(next, x.told(0, 1)) ? 1 : 0);
        checks.due(at + ": WORTH", x.worth(0), worthOf(next));
        checks.due(at + ": LENGTH", x.length(0), lengthOf(next));
        checks.due(at + ": WINNING", x.winning(0), next.stream().filter(n -> n.isLost).count());
        bitesDue(at, replayed(source, path), next);
        x.rule(0, 1 - x.told(0, 1));
        checks.due(at + ": WORTH, whatever the rule is", x.worth(0), worthOf(next));
        return next;
    }

    private void bitesDue(String at, BittenBoards x, List<Next> next) {
        for (int i = 0; i < next.size(); i++) {
            checks.due(at + ": bite " + i + " wins", x.bite(0, i, 2), next.get(i).isLost ? 1 : 0);
            if (x.told(0, 0) != 0) {
                checks.due(at + ": so many go by " + i, x.bite(0, i, 1), x.told(0, 2) - next.get(i).left);
            }
        }
        checks.due(at + ": none behind the last", x.bite(0, next.size(), 0), NONE);
    }

    private static boolean isWon(List<Next> next, int rule) {
        return next.isEmpty() ? rule == 0 : next.stream().anyMatch(n -> n.isLost);
    }

    private static int worthOf(List<Next> next) {
        int worth = 0;
        for (int k = 0; k < next.size(); k++) {
            int looked = worth;
            worth += next.stream().anyMatch(n -> n.worth == looked) ? 1 : 0;
        }
        return worth;
    }

    private static int lengthOf(List<Next> next) {
        if (next.isEmpty()) {
            return 0;
        }
        boolean canWin = next.stream().anyMatch(n -> n.isLost);
        return 1 + (canWin
            ? next.stream().filter(n -> n.isLost).mapToInt(n -> n.length).min().orElse(0)
            : next.stream().mapToInt(n -> n.length).max().orElse(0));
    }

    private static int answerOf(List<Next> next) {
        int longest = 0;
        for (int i = 0; i < next.size(); i++) {
            if (next.get(i).isLost) {
                return i;
            }
            longest = next.get(i).length > next.get(longest).length ? i : longest;
        }
        return longest;
    }

    private void sums() {
        for (int set = 1; set <= 63; set++) {
            BittenBoards x = Made.six();
            int all = 0;
            for (int g = 0; g < MOST_GAMES; g++) {
                all ^= (set >> g & 1) * x.worth(g);
            }
            checks.due("SUM of the set " + set, x.sum(set), all);
            firstWinningDue(x, set);
        }
    }

    private void firstWinningDue(BittenBoards x, int set) {
        int game = NONE;
        int bite = NONE;
        for (int g = 0; g < MOST_GAMES && game == NONE; g++) {
            int bites = (set >> g & 1) * x.told(g, 3);
            for (int i = 0; i < bites && game == NONE; i++) {
                x.play(g, i);
                if (x.sum(set) == 0) {
                    game = g;
                    bite = i;
                }
                x.back(g);
            }
        }
        checks.due("the game of the first WINNING BITE in " + set, x.inSum(set, 0), game);
        checks.due("the first WINNING BITE in " + set, x.inSum(set, 1), bite);
        checks.due("there is one where the SUM is not 0", x.sum(set) == 0 ? 1 : 0, game == NONE ? 1 : 0);
    }
}
