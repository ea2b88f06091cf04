/**
 * Every refusal that a promise names: the numbers next to the bounds and far from them, of several
 * refusals the first in the document's order, and that what was refused changed nothing.
 */
final class RefusalTests {
    private static final int NONE = -1, UNKNOWN = -1001, OUTSIDE = -1002, NOT = -1003, FULL = -1004;
    private static final int LEAST = Integer.MIN_VALUE, GREATEST = Integer.MAX_VALUE;
    /** What the plays of Made.six() leave. */
    private static final int[] BITES_OF_SIX = {16, 2, 4, 6, 10, 0};

    private interface Call {
        int on(BittenBoards x);
    }

    private interface CallWith {
        int on(BittenBoards x, int number);
    }

    private enum Games {
        NO, THREE, SIX;

        BittenBoards made() {
            switch (this) {
                case NO: return new BittenBoards();
                case THREE: return Made.three();
                default: return Made.six();
            }
        }
    }

    private final Checks checks;
    private final String[] untouched = new String[Games.values().length];

    private RefusalTests(Checks checks) {
        this.checks = checks;
        for (Games games : Games.values()) {
            untouched[games.ordinal()] = Snapshot.of(games.made());
        }
    }

    static void run(Checks checks) {
        RefusalTests tests = new RefusalTests(checks);
        tests.gamesThatThereAreNot();
        tests.gamesOfOtherKinds();
        tests.promise2Rows();
        tests.promises3And5OrderAndNet();
        tests.promise4Divisors();
        tests.promise7Row();
        tests.promise8Thing();
        tests.promise9Below();
        tests.promise10Post();
        tests.promise11Road();
        tests.promise12Rule();
        tests.promise13Told();
        tests.promise14IsBelow();
        tests.promise15Bite();
        tests.promise20Boards();
        tests.promise21Ranked();
        tests.promise22Play();
        tests.promise23Answer();
        tests.promise24Back();
        tests.promise25Noted();
        tests.promise26Sum();
        tests.promise27InSum();
    }

    /** Each call must answer what is due, and after all of them nothing has changed. */
    private void refused(String name, Games games, int want, Call... calls) {
        BittenBoards x = games.made();
        for (int k = 0; k < calls.length; k++) {
            checks.due(name + ", call " + k, calls[k].on(x), want);
        }
        checks.holds(name + " changed nothing",
                Snapshot.of(x).equals(untouched[games.ordinal()]));
    }

    /** The same for one call with each number that is out of its bounds. */
    private void outside(String name, Games games, int want, int least, int greatest, CallWith call) {
        int[] numbers = {
            least - 1, greatest + 1, least - 2, greatest + 2, least - 10, greatest + 10,
            least - 32, greatest - 32, least + 32, greatest + 32, least + 64, least + 256,
            greatest + 256, least - 65536, least + 65536, LEAST, LEAST + 1, LEAST + least,
            LEAST + greatest, GREATEST, GREATEST - 1, GREATEST - greatest};
        BittenBoards x = games.made();
        for (int number : numbers) {
            if (number < least || number > greatest) {
                checks.due(name + " " + number, call.on(x, number), want);
            }
        }
        checks.holds(name + " out of its bounds changed nothing",
                Snapshot.of(x).equals(untouched[games.ordinal()]));
    }

    private void gamesThatThereAreNot() {
        unknownIn(Games.NO, -1);
        unknownIn(Games.THREE, 2);
        unknownIn(Games.SIX, 5);
    }

    /** With other arguments that are right, and with such that would be refused by themselves. */
    private void unknownIn(Games games, int last) {
        String in = " in " + games + ", game";
        outside("row" + in, games, UNKNOWN, 0, last, (x, g) -> x.row(g, 0, 1));
        outside("row (7, 8)" + in, games, UNKNOWN, 0, last, (x, g) -> x.row(g, 7, 8));
        outside("row (6, 7)" + in, games, UNKNOWN, 0, last, (x, g) -> x.row(g, 6, 7));
        outside("thing" + in, games, UNKNOWN, 0, last, (x, g) -> x.thing(g));
        outside("below" + in, games, UNKNOWN, 0, last, (x, g) -> x.below(g, 0, 4));
        outside("below (0, 0)" + in, games, UNKNOWN, 0, last, (x, g) -> x.below(g, 0, 0));
        outside("post" + in, games, UNKNOWN, 0, last, (x, g) -> x.post(g));
        outside("road" + in, games, UNKNOWN, 0, last, (x, g) -> x.road(g, 0, 1));
        outside("road (0, 0)" + in, games, UNKNOWN, 0, last, (x, g) -> x.road(g, 0, 0));
        outside("rule" + in, games, UNKNOWN, 0, last, (x, g) -> x.rule(g, 1));
        outside("rule 2" + in, games, UNKNOWN, 0, last, (x, g) -> x.rule(g, 2));
        outside("told" + in, games, UNKNOWN, 0, last, (x, g) -> x.told(g, 0));
        outside("told 6" + in, games, UNKNOWN, 0, last, (x, g) -> x.told(g, 6));
        outside("isBelow" + in, games, UNKNOWN, 0, last, (x, g) -> x.isBelow(g, 0, 1));
        outside("bite" + in, games, UNKNOWN, 0, last, (x, g) -> x.bite(g, 0, 0));
        outside("bite -1" + in, games, UNKNOWN, 0, last, (x, g) -> x.bite(g, -1, 0));
        outside("bite what 3" + in, games, UNKNOWN, 0, last, (x, g) -> x.bite(g, 0, 3));
        outside("won" + in, games, UNKNOWN, 0, last, (x, g) -> x.won(g));
        outside("worth" + in, games, UNKNOWN, 0, last, (x, g) -> x.worth(g));
        outside("length" + in, games, UNKNOWN, 0, last, (x, g) -> x.length(g));
        outside("winning" + in, games, UNKNOWN, 0, last, (x, g) -> x.winning(g));
        outside("play" + in, games, UNKNOWN, 0, last, (x, g) -> x.play(g, 0));
        outside("play -1" + in, games, UNKNOWN, 0, last, (x, g) -> x.play(g, -1));
        outside("answer" + in, games, UNKNOWN, 0, last, (x, g) -> x.answer(g));
        outside("back" + in, games, UNKNOWN, 0, last, (x, g) -> x.back(g));
        outside("noted" + in, games, UNKNOWN, 0, last, (x, g) -> x.noted(g, 0));
        outside("noted -1" + in, games, UNKNOWN, 0, last, (x, g) -> x.noted(g, -1));
    }

    /** Where a call is for one kind alone, a game of another one is unknown, whatever else is wrong. */
    private void gamesOfOtherKinds() {
        for (int other : new int[] {1, 2, 3, 4}) {
            refused("row of game " + other, Games.SIX, UNKNOWN,
                x -> x.row(other, 0, 1), x -> x.row(other, 7, 0), x -> x.row(other, 0, 8),
                x -> x.row(other, 6, 7));
        }
        for (int other : new int[] {0, 2, 4, 5}) {
            refused("orders' calls of game " + other, Games.SIX, UNKNOWN,
                x -> x.thing(other), x -> x.below(other, 0, 1), x -> x.below(other, 0, 0),
                x -> x.below(other, -1, 12), x -> x.isBelow(other, 0, 1),
                x -> x.isBelow(other, 0, 0), x -> x.isBelow(other, 12, -1));
        }
        for (int other : new int[] {0, 1, 3, 5}) {
            refused("nets' calls of game " + other, Games.SIX, UNKNOWN,
                x -> x.post(other), x -> x.road(other, 0, 1), x -> x.road(other, 0, 0),
                x -> x.road(other, -1, 6));
        }
    }

    private void promise2Rows() {
        for (Games games : Games.values()) {
            String in = " in " + games;
            outside("rows h" + in, games, OUTSIDE, 1, 7, (x, h) -> x.rows(h, 3, 0));
            outside("rows w" + in, games, OUTSIDE, 1, 7, (x, w) -> x.rows(3, w, 1));
            outside("rows rule" + in, games, OUTSIDE, 0, 1, (x, rule) -> x.rows(3, 3, rule));
            refused("rows, several" + in, games, OUTSIDE,
                x -> x.rows(0, 0, 0), x -> x.rows(8, 1, 2), x -> x.rows(1, 8, -1),
                x -> x.rows(LEAST, GREATEST, LEAST));
        }
        refused("a seventh of rows", Games.SIX, FULL,
            x -> x.rows(1, 1, 0), x -> x.rows(7, 7, 1), x -> x.rows(1, 7, 1));
    }

    private void promises3And5OrderAndNet() {
        for (Games games : Games.values()) {
            outside("order in " + games, games, OUTSIDE, 0, 1, (x, rule) -> x.order(rule));
            outside("net in " + games, games, OUTSIDE, 0, 1, (x, rule) -> x.net(rule));
        }
        refused("a seventh order", Games.SIX, FULL, x -> x.order(0), x -> x.order(1));
        refused("a seventh net", Games.SIX, FULL, x -> x.net(0), x -> x.net(1));
    }

    private void promise4Divisors() {
        for (Games games : Games.values()) {
            String in = " in " + games;
            outside("divisors" + in, games, OUTSIDE, 1, 10000, (x, n) -> x.divisors(n, 0));
            outside("divisors of 6, rule" + in, games, OUTSIDE, 0, 1, (x, rule) -> x.divisors(6, rule));
            refused("more than 12 divisors" + in, games, OUTSIDE,
                x -> x.divisors(4096, 0), x -> x.divisors(192, 0), x -> x.divisors(144, 1),
                x -> x.divisors(120, 0), x -> x.divisors(7560, 1), x -> x.divisors(10000, 0));
            refused("divisors, several" + in, games, OUTSIDE,
                x -> x.divisors(0, 2), x -> x.divisors(10001, -1), x -> x.divisors(4096, 2));
        }
        refused("a seventh of divisors", Games.SIX, FULL,
            x -> x.divisors(1, 0), x -> x.divisors(60, 1), x -> x.divisors(9999, 0));
    }

    private void promise7Row() {
        for (int ended = 0; ended <= 5; ended += 5) {
            int g = ended;
            outside("row r of game " + g, Games.SIX, OUTSIDE, 0, 6, (x, r) -> x.row(g, r, 0));
            outside("row v of game " + g, Games.SIX, OUTSIDE, 0, 7, (x, v) -> x.row(g, 0, v));
            outside("row v, above the row ahead", Games.SIX, OUTSIDE, 0, 7, (x, v) -> x.row(g, 1, v));
            outside("row r with too many squares", Games.SIX, OUTSIDE, 0, 6, (x, r) -> x.row(g, r, 8));
        }
        // The rows are 5, 4, 4, 3 and three of none.
        refused("row above the row ahead", Games.SIX, NOT,
            x -> x.row(0, 1, 6), x -> x.row(0, 1, 7), x -> x.row(0, 2, 5), x -> x.row(0, 3, 5),
            x -> x.row(0, 3, 7), x -> x.row(0, 4, 4), x -> x.row(0, 5, 1), x -> x.row(0, 6, 1));
        refused("row above an empty one", Games.SIX, NOT,
            x -> x.row(5, 1, 1), x -> x.row(5, 6, 7));
    }

    private void promise8Thing() {
        refused("a thirteenth thing", Games.SIX, FULL, x -> x.thing(3), x -> x.thing(3));
    }

    private void promise9Below() {
        outside("below a of five", Games.SIX, UNKNOWN, 0, 4, (x, a) -> x.below(1, a, 4));
        outside("below b of five", Games.SIX, UNKNOWN, 0, 4, (x, b) -> x.below(1, 0, b));
        outside("below a of twelve", Games.SIX, UNKNOWN, 0, 11, (x, a) -> x.below(3, a, 11));
        outside("below b of twelve", Games.SIX, UNKNOWN, 0, 11, (x, b) -> x.below(3, 0, b));
        outside("below itself, unknown", Games.SIX, UNKNOWN, 0, 4, (x, a) -> x.below(1, a, a));
        refused("below itself", Games.SIX, NOT,
            x -> x.below(1, 0, 0), x -> x.below(1, 4, 4), x -> x.below(3, 0, 0), x -> x.below(3, 11, 11));
        refused("b is below a", Games.SIX, NOT, x -> x.below(1, 1, 0), x -> x.below(1, 3, 2),
            x -> x.below(3, 11, 10), x -> x.below(3, 1, 0));
        refused("b is below a, as it follows", Games.SIX, NOT,
            x -> x.below(1, 3, 0), x -> x.below(3, 11, 0));
    }

    private void promise10Post() {
        refused("a seventh post", Games.SIX, FULL, x -> x.post(4), x -> x.post(4));
    }

    private void promise11Road() {
        outside("road a of four posts", Games.SIX, UNKNOWN, 0, 3, (x, a) -> x.road(2, a, 0));
        outside("road b of four posts", Games.SIX, UNKNOWN, 0, 3, (x, b) -> x.road(2, 0, b));
        outside("road a of six posts", Games.SIX, UNKNOWN, 0, 5, (x, a) -> x.road(4, a, 0));
        outside("road b of six posts", Games.SIX, UNKNOWN, 0, 5, (x, b) -> x.road(4, 0, b));
        outside("road between unknown ones", Games.SIX, UNKNOWN, 0, 3, (x, a) -> x.road(2, a, a));
        outside("road between unknown ones, full", Games.SIX, UNKNOWN, 0, 5, (x, a) -> x.road(4, a, a));
        refused("road from a post to itself", Games.SIX, NOT,
            x -> x.road(2, 0, 0), x -> x.road(2, 3, 3));
        refused("road from a post to itself, full", Games.SIX, NOT,
            x -> x.road(4, 0, 0), x -> x.road(4, 5, 5));
        refused("a tenth road", Games.SIX, FULL,
            x -> x.road(4, 0, 1), x -> x.road(4, 1, 0), x -> x.road(4, 5, 2));
    }

    private void promise12Rule() {
        for (int k = 0; k < 6; k++) {
            int g = k;
            outside("rule of game " + g, Games.SIX, OUTSIDE, 0, 1, (x, v) -> x.rule(g, v));
        }
    }

    private void promise13Told() {
        for (int k = 0; k < 6; k++) {
            int g = k;
            outside("told of game " + g, Games.SIX, OUTSIDE, 0, 5, (x, what) -> x.told(g, what));
        }
    }

    private void promise14IsBelow() {
        outside("isBelow a of five", Games.SIX, UNKNOWN, 0, 4, (x, a) -> x.isBelow(1, a, 3));
        outside("isBelow b of five", Games.SIX, UNKNOWN, 0, 4, (x, b) -> x.isBelow(1, 0, b));
        outside("isBelow a of twelve", Games.SIX, UNKNOWN, 0, 11, (x, a) -> x.isBelow(3, a, 11));
        outside("isBelow b of twelve", Games.SIX, UNKNOWN, 0, 11, (x, b) -> x.isBelow(3, 0, b));
        outside("isBelow itself, unknown", Games.SIX, UNKNOWN, 0, 4, (x, a) -> x.isBelow(1, a, a));
    }

    private void promise15Bite() {
        for (int k = 0; k < 6; k++) {
            int g = k;
            checks.due("bites of game " + g, Made.six().told(g, 3), BITES_OF_SIX[g]);
            for (int kind = 0; kind <= 2; kind++) {
                int what = kind;
                outside("bite " + what + " of game " + g, Games.SIX, NONE, 0, BITES_OF_SIX[g] - 1,
                    (x, i) -> x.bite(g, i, what));
            }
            outside("bite 0 of game " + g + ", what", Games.SIX, OUTSIDE, 0, 2,
                (x, what) -> x.bite(g, 0, what));
            outside("bite -1 of game " + g + ", what", Games.SIX, OUTSIDE, 0, 2,
                (x, what) -> x.bite(g, -1, what));
        }
    }

    private void promise20Boards() {
        for (Games games : Games.values()) {
            String in = " in " + games;
            outside("boards h" + in, games, OUTSIDE, 0, 7, (x, h) -> x.boards(h, 3, 0));
            outside("boards w" + in, games, OUTSIDE, 0, 7, (x, w) -> x.boards(3, w, 1));
            outside("boards what" + in, games, OUTSIDE, 0, 2, (x, what) -> x.boards(3, 3, what));
            refused("boards, several" + in, games, OUTSIDE,
                x -> x.boards(8, -1, 0), x -> x.boards(7, 8, 3), x -> x.boards(-1, 7, -1));
        }
    }

    private void promise21Ranked() {
        for (Games games : Games.values()) {
            String in = " in " + games;
            outside("ranked" + in, games, OUTSIDE, 0, 3431, (x, rank) -> x.ranked(rank, 0));
            outside("ranked, row" + in, games, OUTSIDE, 0, 6, (x, r) -> x.ranked(3431, r));
            refused("ranked, both" + in, games, OUTSIDE,
                x -> x.ranked(3432, 7), x -> x.ranked(-1, -1), x -> x.ranked(GREATEST, LEAST));
        }
    }

    private void promise22Play() {
        for (int k = 0; k < 6; k++) {
            int g = k;
            outside("play of game " + g, Games.SIX, NOT, 0, BITES_OF_SIX[g] - 1, (x, i) -> x.play(g, i));
        }
    }

    private void promise23Answer() {
        refused("answer where it has ended", Games.SIX, NOT, x -> x.answer(5), x -> x.answer(5));
        BittenBoards x = new BittenBoards();
        x.order(0);
        x.net(1);
        checks.due("answer without things", x.answer(0), NOT);
        checks.due("answer without posts", x.answer(1), NOT);
        checks.due("nothing is noted without things", x.told(0, 4), 0);
        checks.due("nothing is noted without posts", x.told(1, 4), 0);
    }

    private void promise24Back() {
        BittenBoards x = Made.six();
        BittenBoards y = Made.six();
        for (int g = 0; g < 6; g++) {
            while (x.told(g, 4) > 0) {
                x.back(g);
                y.back(g);
            }
            checks.due("back of game " + g + " where none is noted", x.back(g), NOT);
            checks.due("and once more", x.back(g), NOT);
        }
        checks.holds("back where none is noted changed nothing", Snapshot.of(x).equals(Snapshot.of(y)));
    }

    private void promise25Noted() {
        int[] noted = {2, 2, 2, 1, 2, 2};
        for (int k = 0; k < 6; k++) {
            int g = k;
            outside("noted of game " + g, Games.SIX, NONE, 0, noted[g] - 1, (x, i) -> x.noted(g, i));
            refused("noted of game " + g + " about 100", Games.SIX, NONE,
                x -> x.noted(g, noted[g]), x -> x.noted(g, 99), x -> x.noted(g, 100), x -> x.noted(g, 101));
        }
    }

    private void promise26Sum() {
        outside("sum of no games", Games.NO, OUTSIDE, 1, 0, (x, set) -> x.sum(set));
        outside("sum of three", Games.THREE, OUTSIDE, 1, 7, (x, set) -> x.sum(set));
        outside("sum of six", Games.SIX, OUTSIDE, 1, 63, (x, set) -> x.sum(set));
        refused("sum of none of no games", Games.NO, OUTSIDE, x -> x.sum(0), x -> x.sum(1));
        refused("sum with a game that there is not", Games.THREE, OUTSIDE,
            x -> x.sum(8), x -> x.sum(9), x -> x.sum(15), x -> x.sum(32), x -> x.sum(56), x -> x.sum(63));
        refused("sum with a seventh game", Games.SIX, OUTSIDE,
            x -> x.sum(64), x -> x.sum(65), x -> x.sum(127), x -> x.sum(LEAST | 1), x -> x.sum(1 << 30 | 1));
    }

    private void promise27InSum() {
        for (int kind = 0; kind <= 1; kind++) {
            int what = kind;
            outside("inSum of no games", Games.NO, OUTSIDE, 1, 0, (x, set) -> x.inSum(set, what));
            outside("inSum of three", Games.THREE, OUTSIDE, 1, 7, (x, set) -> x.inSum(set, what));
            outside("inSum of six", Games.SIX, OUTSIDE, 1, 63, (x, set) -> x.inSum(set, what));
            refused("inSum with a game that there is not", Games.THREE, OUTSIDE,
                x -> x.inSum(8, what), x -> x.inSum(9, what), x -> x.inSum(63, what));
        }
        outside("inSum, what", Games.SIX, OUTSIDE, 0, 1, (x, what) -> x.inSum(63, what));
        outside("inSum, what, of an ended game", Games.SIX, OUTSIDE, 0, 1, (x, what) -> x.inSum(32, what));
        refused("inSum, both", Games.SIX, OUTSIDE,
            x -> x.inSum(0, 2), x -> x.inSum(64, -1), x -> x.inSum(-1, LEAST));
        refused("inSum of an ended game", Games.SIX, NONE, x -> x.inSum(32, 0), x -> x.inSum(32, 1));
    }
}
