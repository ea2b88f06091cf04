/**
 * What a call does to the rest: to the play, to the parts that are there, to other games, and what
 * is left after clear(). That refused calls change nothing is in RefusalTests.
 */
final class EffectTests {
    private static final int NONE = -1, UNKNOWN = -1001, OUTSIDE = -1002, NOT = -1003;
    private static final int MOST_GAMES = 6;

    private interface Act {
        void on(BittenBoards x);
    }

    private final Checks checks;

    private EffectTests(Checks checks) {
        this.checks = checks;
    }

    static void run(Checks checks) {
        EffectTests tests = new EffectTests(checks);
        tests.newGames();
        tests.promise6ClearLeavesNothing();
        tests.promise7RowEmptiesThePlay();
        tests.promise7RowStartsFromTheBoardThatIsThere();
        tests.promise8ThingEmptiesThePlay();
        tests.promise9BelowEmptiesThePlay();
        tests.promise9BelowStaysForThingsThatWent();
        tests.promise10PostEmptiesThePlay();
        tests.promise11RoadEmptiesThePlay();
        tests.changesAreSolvedAnew();
        tests.promise12RuleAlone();
        tests.promise12WhatTheRuleIsFor();
        tests.questionsChangeNothing();
        tests.promise22PlayOneGameAlone();
        tests.promise23AnswerOneGameAlone();
        tests.promise24BackOneGameAlone();
        tests.promise24BackThenOtherBites();
        tests.promise25NotedAfterBack();
        tests.promise26And27FollowThePlays();
    }

    private void due(String call, long got, long want) {
        checks.due(call, got, want);
    }

    /** Games but the one that is meant (or all, for -1) show all that they showed before. */
    private void othersStay(String name, int meant, Act act) {
        for (int g = 0; g < MOST_GAMES; g++) {
            BittenBoards x = Made.six();
            act.on(x);
            if (g != meant) {
                checks.holds(name + " leaves game " + g,
                        Snapshot.ofGame(x, g).equals(Snapshot.ofGame(Made.six(), g)));
            }
        }
    }

    private void playIsEmpty(String name, BittenBoards x, int g) {
        due(name + ": nothing is noted", x.told(g, 4), 0);
        due(name + ": no first bite", x.noted(g, 0), NONE);
        due(name + ": nothing to take back", x.back(g), NOT);
    }

    private void newGames() {
        for (int made = 0; made <= 3; made++) {
            BittenBoards x = Made.three();
            int g = made == 0 ? x.rows(7, 7, 1) : made == 1 ? x.order(1)
                    : made == 2 ? x.divisors(60, 1) : x.net(1);
            due("a new game is the next one", g, 3);
            playIsEmpty("a new game", x, 3);
            due("its rule", x.told(3, 1), 1);
            for (int k = 0; k < 3; k++) {
                checks.holds("a new game leaves game " + k,
                        Snapshot.ofGame(x, k).equals(Snapshot.ofGame(Made.three(), k)));
            }
            due("no game behind it", x.told(4, 0), UNKNOWN);
        }
    }

    private void promise6ClearLeavesNothing() {
        BittenBoards x = Made.six();
        x.clear();
        for (int g = 0; g < MOST_GAMES; g++) {
            due("no play of game " + g, x.noted(g, 0), UNKNOWN);
            due("nothing to take back of game " + g, x.back(g), UNKNOWN);
            due("no state of game " + g, x.told(g, 5), UNKNOWN);
        }
        due("no sum", x.sum(1), OUTSIDE);
        Made.putThree(x);
        checks.holds("games after clear() are as those of a new object",
                Snapshot.of(x).equals(Snapshot.of(Made.three())));
        BittenBoards y = Made.six();
        y.clear();
        for (int g = 0; g < MOST_GAMES; g++) {
            emptyGameAfterOther(y, g);
        }
    }

    /** Each place had another kind of game before. */
    private void emptyGameAfterOther(BittenBoards y, int g) {
        boolean isOrder = g % 3 != 1;
        due("place " + g + " is used again", isOrder ? y.order(1) : y.net(1), g);
        playIsEmpty("place " + g, y, g);
        due("nothing is there in place " + g, y.told(g, 5), 0);
        due("nothing is solved before in place " + g, y.worth(g), 0);
        due("its first part", isOrder ? y.thing(g) : y.post(g), 0);
        due("its second part", isOrder ? y.thing(g) : y.post(g), 1);
        due("apart from the first one", y.play(g, 0), 2);
        due("solved anew", y.worth(g), 1);
        if (isOrder) {
            due("none is below the other one", y.isBelow(g, 0, 1), 0);
            due("the only pair", y.below(g, 1, 0), 1);
        } else {
            due("the first road", y.road(g, 0, 1), 0);
        }
    }

    private void promise7RowEmptiesThePlay() {
        othersStay("row", 0, x -> x.row(0, 1, 2));
        BittenBoards x = Made.six();
        x.row(0, 1, 2);
        playIsEmpty("row", x, 0);
        due("rule after row", x.told(0, 1), 0);
        due("rows after row", x.told(0, 5), Reference.rankOf(5, 2, 2, 2, 0, 0, 0));
        // Also where the row is as long as it was, and where the game has ended.
        BittenBoards y = Made.six();
        due("the same row", y.row(0, 0, 5), 16);
        playIsEmpty("the same row", y, 0);
        due("an ended game's row", y.row(5, 0, 3), 3);
        playIsEmpty("an ended game's row", y, 5);
        due("an empty row stays empty", Made.six().row(5, 6, 0), 0);
    }

    private void promise7RowStartsFromTheBoardThatIsThere() {
        BittenBoards x = Made.rows(3, 3, 0);
        x.play(0, 4);
        due("3, 1, 1 is left; row 2 goes", x.row(0, 2, 0), 4);
        due("row 1 stays bitten", x.told(0, 5), Reference.rankOf(3, 1, 0, 0, 0, 0, 0));
        due("row 0 longer", x.row(0, 0, 7), 8);
        due("row 1 stays as it is", x.told(0, 5), Reference.rankOf(7, 1, 0, 0, 0, 0, 0));
    }

    private void promise8ThingEmptiesThePlay() {
        othersStay("thing", 1, x -> x.thing(1));
        BittenBoards x = Made.six();
        due("two things are left", x.told(1, 5), 5);
        due("a sixth", x.thing(1), 5);
        due("all six are there", x.told(1, 5), 63);
        playIsEmpty("thing", x, 1);
        due("rule after thing", x.told(1, 1), 1);
        int[][] pairs = {{0, 1}, {0, 3}, {1, 3}, {2, 3}};
        for (int[] pair : pairs) {
            due("a pair stays", x.isBelow(1, pair[0], pair[1]), 1);
        }
        for (int a = 0; a < 5; a++) {
            due("the sixth is above none", x.isBelow(1, a, 5), 0);
            due("the sixth is below none", x.isBelow(1, 5, a), 0);
        }
        due("four pairs and another one", x.below(1, 4, 5), 5);
    }

    private void promise9BelowEmptiesThePlay() {
        othersStay("below", 1, x -> x.below(1, 0, 4));
        BittenBoards x = Made.six();
        due("a fifth pair", x.below(1, 3, 4), 8);
        due("all five are there", x.told(1, 5), 31);
        playIsEmpty("below", x, 1);
        due("rule after below", x.told(1, 1), 1);
        BittenBoards y = Made.six();
        due("a pair told before", y.below(1, 1, 3), 4);
        due("all five are there, too", y.told(1, 5), 31);
        playIsEmpty("a pair told before", y, 1);
        BittenBoards z = Made.six();
        due("a pair that followed before", z.below(1, 0, 3), 4);
        due("all five are there again", z.told(1, 5), 31);
        playIsEmpty("a pair that followed before", z, 1);
    }

    private void promise9BelowStaysForThingsThatWent() {
        BittenBoards x = Made.chain(3, 0);
        x.play(0, 1);
        due("1 and 2 went; 0 is below 1", x.isBelow(0, 0, 1), 1);
        due("1 is below 2", x.isBelow(0, 1, 2), 1);
        due("2 is not below 1", x.isBelow(0, 2, 1), 0);
        due("2 can't be below 0", x.below(0, 2, 0), NOT);
        due("what was refused brings none back", x.told(0, 5), 1);
        due("a pair of things that went", x.below(0, 1, 2), 3);
        due("brings them back", x.told(0, 5), 7);
    }

    private void promise10PostEmptiesThePlay() {
        othersStay("post", 2, x -> x.post(2));
        BittenBoards x = Made.six();
        due("three posts and a road are left", x.told(2, 5), 14 + 64 * 2);
        due("a fifth", x.post(2), 4);
        due("all are there", x.told(2, 5), 31 + 64 * 15);
        playIsEmpty("post", x, 2);
        due("rule after post", x.told(2, 1), 0);
        for (int post = 0; post < 5; post++) {
            due("roads stay at their posts", x.bite(2, post, 1), post < 4 ? 3 : 1);
        }
    }

    private void promise11RoadEmptiesThePlay() {
        othersStay("road", 2, x -> x.road(2, 0, 2));
        BittenBoards x = Made.six();
        due("a fifth, at a post that went", x.road(2, 0, 2), 4);
        due("all are there", x.told(2, 5), 15 + 64 * 31);
        playIsEmpty("road", x, 2);
        due("rule after road", x.told(2, 1), 0);
        due("post 0 takes it along", x.bite(2, 0, 1), 4);
        due("post 1 does not", x.bite(2, 1, 1), 3);
        due("post 2 takes it along", x.bite(2, 2, 1), 4);
        due("a post after it", x.post(2), 4);
        due("takes nothing along", x.bite(2, 4, 1), 1);
    }

    /** What was solved before a change is not told of the changed game. */
    private void changesAreSolvedAnew() {
        BittenBoards x = Made.order(0, 1);
        due("nothing", x.worth(0), 0);
        x.thing(0);
        due("one thing", x.worth(0), 1);
        x.thing(0);
        due("two apart", x.worth(0), 0);
        due("two apart: length", x.length(0), 2);
        x.below(0, 1, 0);
        due("two in a chain", x.worth(0), 2);
        due("two in a chain: length", x.length(0), 1);
        BittenBoards y = Made.net(1, 1);
        due("one post", y.worth(0), 1);
        y.post(0);
        due("two posts", y.worth(0), 0);
        y.road(0, 0, 1);
        due("and a road", y.worth(0), 2);
        y.road(0, 0, 1);
        due("and two roads", y.worth(0), 0);
        BittenBoards z = Made.rows(1, 1, 0);
        due("one square is lost", z.won(0), 0);
        z.row(0, 0, 2);
        due("two are won", z.won(0), 1);
        due("and a heap of two", z.worth(0), 2);
    }

    private void promise12RuleAlone() {
        for (int k = 0; k < MOST_GAMES; k++) {
            int g = k;
            othersStay("rule of " + g, g, x -> x.rule(g, 1 - x.told(g, 1)));
            BittenBoards x = Made.six();
            int noted = x.told(g, 4);
            int state = x.told(g, 5);
            int worth = x.worth(g);
            x.rule(g, 1 - x.told(g, 1));
            due("the play stays", x.told(g, 4), noted);
            due("the state stays", x.told(g, 5), state);
            due("worth is by rule 1 whatever the rule is", x.worth(g), worth);
            x.rule(g, 1 - x.told(g, 1));
            checks.holds("the rule back and forth leaves all of " + g,
                    Snapshot.ofGame(x, g).equals(Snapshot.ofGame(Made.six(), g)));
        }
    }

    private void promise12WhatTheRuleIsFor() {
        BittenBoards x = Made.rows(1, 7, 0);
        due("by rule 0 all but one", x.bite(0, 1, 2), 1);
        due("not all", x.bite(0, 0, 2), 0);
        due("length by rule 0", x.length(0), 2);
        due("it was 0", x.rule(0, 1), 0);
        due("by rule 1 not all but one", x.bite(0, 1, 2), 0);
        due("all", x.bite(0, 0, 2), 1);
        due("length by rule 1", x.length(0), 1);
        due("the answer by rule 1", x.answer(0), 0);
        x.back(0);
        x.rule(0, 0);
        due("the answer by rule 0", x.answer(0), 1);
    }

    private void questionsChangeNothing() {
        BittenBoards x = Made.six();
        for (int g = 0; g < MOST_GAMES; g++) {
            for (int what = 0; what <= 5; what++) {
                x.told(g, what);
            }
            for (int what = 0; what <= 2; what++) {
                x.bite(g, 0, what);
                x.bite(g, 1, what);
            }
            x.won(g);
            x.worth(g);
            x.length(g);
            x.winning(g);
            x.noted(g, 0);
            x.isBelow(g, 0, 1);
        }
        for (int what = 0; what <= 2; what++) {
            x.boards(7, 7, what);
            x.boards(3, 2, what);
        }
        x.ranked(0, 0);
        x.ranked(3431, 6);
        x.sum(63);
        x.inSum(63, 0);
        x.inSum(63, 1);
        checks.holds("questions change nothing", Snapshot.of(x).equals(Snapshot.of(Made.six())));
    }

    private void promise22PlayOneGameAlone() {
        for (int k = 0; k < 5; k++) {
            int g = k;
            othersStay("play of " + g, g, x -> x.play(g, 1));
            BittenBoards x = Made.six();
            int noted = x.told(g, 4);
            int first = x.noted(g, 0);
            due("the state as told", x.play(g, 1), x.told(g, 5));
            due("one more is noted", x.told(g, 4), noted + 1);
            due("the latest one", x.noted(g, noted), 1);
            due("the first one stays", x.noted(g, 0), first);
            x.back(g);
            checks.holds("play and back leave all of " + g,
                    Snapshot.of(x).equals(Snapshot.of(Made.six())));
        }
    }

    private void promise23AnswerOneGameAlone() {
        for (int k = 0; k < 5; k++) {
            int g = k;
            othersStay("answer of " + g, g, x -> x.answer(g));
            BittenBoards x = Made.six();
            BittenBoards y = Made.six();
            int noted = x.told(g, 4);
            int i = x.answer(g);
            due("its bite is noted", x.noted(g, noted), i);
            due("one more is noted", x.told(g, 4), noted + 1);
            due("it is done as if played", x.told(g, 5), y.play(g, i));
            x.back(g);
            checks.holds("answer and back leave all of " + g,
                    Snapshot.of(x).equals(Snapshot.of(Made.six())));
        }
    }

    private void promise24BackOneGameAlone() {
        int[] noted = {2, 2, 2, 1, 2, 2};
        int[] before = {Reference.rankOf(5, 5, 5, 3, 0, 0, 0), 21, 15 + 64 * 11, 4095, 55 + 64 * 371, 1};
        for (int k = 0; k < MOST_GAMES; k++) {
            int g = k;
            othersStay("back of " + g, g, x -> x.back(g));
            BittenBoards x = Made.six();
            due("one less is noted in " + g, x.back(g), noted[g] - 1);
            due("as told", x.told(g, 4), noted[g] - 1);
            due("the state before it", x.told(g, 5), before[g]);
            due("what was taken back is not noted", x.noted(g, noted[g] - 1), NONE);
        }
    }

    private void promise24BackThenOtherBites() {
        BittenBoards x = Made.chain(4, 1);
        x.play(0, 3);
        x.play(0, 2);
        due("one is noted", x.back(0), 1);
        due("another bite", x.play(0, 1), 1);
        due("it is noted in its place", x.noted(0, 1), 1);
        due("one is noted then", x.back(0), 1);
        due("the state between", x.told(0, 5), 7);
        due("none is noted then", x.back(0), 0);
        due("all are there", x.told(0, 5), 15);
        due("none to take back", x.back(0), NOT);
    }

    private void promise25NotedAfterBack() {
        BittenBoards x = Made.rows(2, 2, 0);
        x.play(0, 3);
        x.play(0, 2);
        x.back(0);
        due("the first is noted", x.noted(0, 0), 3);
        due("the second is not", x.noted(0, 1), NONE);
        due("the house bites", x.answer(0), x.noted(0, 1));
        due("none behind it", x.noted(0, 2), NONE);
        x.back(0);
        x.back(0);
        due("nothing is noted", x.noted(0, 0), NONE);
        due("nothing to take back", x.back(0), NOT);
    }

    private void promise26And27FollowThePlays() {
        BittenBoards x = Made.rows(1, 6, 0);
        x.rows(6, 1, 1);
        due("6 and 6", x.sum(3), 0);
        due("none wins", x.inSum(3, 0), NONE);
        x.play(0, 2);
        due("2 and 6", x.sum(3), 4);
        due("game 1: 6 becomes 2", x.inSum(3, 0), 1);
        due("bite 2", x.inSum(3, 1), 2);
        due("asking does nothing", x.sum(3), 4);
        x.play(1, 2);
        due("2 and 2", x.sum(3), 0);
        x.back(0);
        due("6 and 2", x.sum(3), 4);
        x.row(0, 0, 0);
        due("0 and 2", x.sum(3), 2);
        x.play(1, 0);
        due("0 and 0", x.sum(3), 0);
        due("nothing to bite", x.inSum(3, 1), NONE);
        x.clear();
        due("no games", x.sum(3), OUTSIDE);
        due("no games to bite in", x.inSum(3, 1), OUTSIDE);
    }
}
