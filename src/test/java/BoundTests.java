import java.util.ArrayList;
import java.util.List;

/**
 * What is still within: for each promise the least and the greatest that the document allows, what
 * is empty, what is full, and games that have ended. What lies outside is in RefusalTests.
 */
final class BoundTests {
    private static final int NONE = -1, UNKNOWN = -1001, OUTSIDE = -1002, NOT = -1003, FULL = -1004;
    private static final int[] SIXTY = {1, 2, 3, 4, 5, 6, 10, 12, 15, 20, 30, 60};

    private final Checks checks;

    private BoundTests(Checks checks) {
        this.checks = checks;
    }

    static void run(Checks checks) {
        BoundTests tests = new BoundTests(checks);
        tests.games();
        tests.squares();
        tests.sets();
        tests.solved();
        tests.plays();
        tests.sums();
        tests.theLastCalls();
    }

    private void games() {
        promise1NoGames();
        promise1TwoObjectsApart();
        sixGamesOfEachKind();
        promise6ClearEachNumberOfGames();
        promise12RuleAtEachState();
        promise13ToldOfEmptyOnes();
        promise13ToldOfFullOnes();
        promise13ToldOfEndedOnes();
    }

    private void squares() {
        promise2RowsOfEverySize();
        promise7RowAsLongAsTheOneAhead();
        promise7RowsBehindAreCut();
        promise7FromNothingToTheFullBoard();
        promise15SquaresByRowThenColumn();
        promise22EverySquareOfTheFullBoard();
        promise22ShorterRowsStay();
        promise21EveryRank();
    }

    private void sets() {
        promise4EveryNumber();
        promise4BoundsOfNumbers();
        promise4RisingAndBelowMultiples();
        promise8TwelveThings();
        promise8AfterDivisors();
        promise9ChainsOfTwelve();
        promise9TwoChainsBecomeOne();
        promise9OneBelowAll();
        promise10SixPosts();
        promise11RoadsOfEveryPair();
        promise11NineRoadsBetweenTwo();
        promise11FewPosts();
        promise15Things();
        promise15PostsThenRoads();
    }

    private void solved() {
        endsOfEachKind();
        oneBiteLeftOfEachKind();
        fullBoard();
        fullOrders();
        fullNets();
        promise19WinningBites();
        promise20BoardsOfEachSize();
        promise20LeastBoards();
        eachQuestionFirst();
    }

    private void plays() {
        promise22FirstAndLastBite();
        fortyNineBites();
        promise23TheLastBite();
        promise23WinningBites();
        promise23LongestBites();
        promise24BackToTheFirst();
        promise25NotedNothing();
    }

    private void sums() {
        promise26LeastAndGreatestSets();
        promise26EachFigureByItself();
        promise27FirstGameThenFirstBite();
        promise27WorthsThatRise();
        promise27AnyRule();
    }

    private void due(String call, long got, long want) {
        checks.due(call, got, want);
    }

    private void rowsDue(String name, BittenBoards x, int g, int... rows) {
        due(name + ": rank", x.told(g, 5), Reference.rankOf(rows));
        for (int r = 0; r < 7; r++) {
            due(name + ": row " + r, x.ranked(x.told(g, 5), r), rows[r]);
        }
    }

    // ---- games

    private void promise1NoGames() {
        BittenBoards x = new BittenBoards();
        for (int g = 0; g < 6; g++) {
            due("no game " + g, x.told(g, 0), UNKNOWN);
            due("no state of " + g, x.told(g, 5), UNKNOWN);
            due("no game to bite in " + g, x.play(g, 0), UNKNOWN);
            due("no sum of " + g, x.sum(1 << g), OUTSIDE);
        }
        due("none of them goes", x.clear(), 0);
        due("the first rows are game 0", new BittenBoards().rows(1, 1, 0), 0);
        due("the first order is game 0", new BittenBoards().order(0), 0);
        due("the first divisors are game 0", new BittenBoards().divisors(1, 0), 0);
        due("the first net is game 0", new BittenBoards().net(0), 0);
    }

    private void promise1TwoObjectsApart() {
        BittenBoards x = Made.six();
        BittenBoards y = new BittenBoards();
        due("nothing of another object", y.told(0, 0), UNKNOWN);
        y.rows(7, 7, 1);
        y.play(0, 48);
        y.clear();
        checks.holds("nothing done to another object", Snapshot.of(x).equals(Snapshot.of(Made.six())));
    }

    private void sixGamesOfEachKind() {
        BittenBoards rows = new BittenBoards();
        BittenBoards orders = new BittenBoards();
        BittenBoards divisors = new BittenBoards();
        BittenBoards nets = new BittenBoards();
        for (int k = 0; k < 6; k++) {
            due("rows " + k, rows.rows(k + 1, 7 - k, k % 2), k);
            due("order " + k, orders.order(k % 2), k);
            due("divisors " + k, divisors.divisors(1 << k, k % 2), k);
            due("net " + k, nets.net(k % 2), k);
        }
        for (int k = 0; k < 6; k++) {
            due("squares of rows " + k, rows.told(k, 2), (k + 1) * (7 - k));
            due("things of divisors " + k, divisors.told(k, 2), k + 1);
            due("kind of order " + k, orders.told(k, 0), 1);
            due("kind of net " + k, nets.told(k, 0), 2);
            due("rule of net " + k, nets.told(k, 1), k % 2);
        }
        due("no rows 6", rows.told(6, 0), UNKNOWN);
        due("seventh rows", rows.rows(1, 1, 0), FULL);
        due("seventh order", orders.order(0), FULL);
        due("seventh divisors", divisors.divisors(1, 0), FULL);
        due("seventh net", nets.net(0), FULL);
    }

    private void promise6ClearEachNumberOfGames() {
        BittenBoards x = new BittenBoards();
        for (int many = 0; many <= 6; many++) {
            for (int k = 0; k < many; k++) {
                due("game " + k + " of " + many, k % 2 == 0 ? x.net(0) : x.rows(2, 2, 1), k);
            }
            due("so many go", x.clear(), many);
            for (int g = 0; g < 6; g++) {
                due("no game " + g + " after " + many, x.told(g, 0), UNKNOWN);
            }
            due("no sum after " + many, x.sum(1), OUTSIDE);
            due("no winning bite after " + many, x.inSum(1, 0), OUTSIDE);
            due("nothing more goes", x.clear(), 0);
        }
    }

    private void promise12RuleAtEachState() {
        BittenBoards x = Made.six();
        for (int g = 0; g < 6; g++) {
            int was = x.told(g, 1);
            due("rule 0 of " + g, x.rule(g, 0), was);
            due("again 0", x.rule(g, 0), 0);
            due("rule 1", x.rule(g, 1), 0);
            due("again 1", x.rule(g, 1), 1);
            due("it is 1", x.told(g, 1), 1);
            due("back to 0", x.rule(g, 0), 1);
            due("it is 0", x.told(g, 1), 0);
        }
    }

    private void toldDue(String name, BittenBoards x, int g, int... told) {
        for (int what = 0; what <= 5; what++) {
            due(name + ": told " + what, x.told(g, what), told[what]);
        }
    }

    private void promise13ToldOfEmptyOnes() {
        toldDue("no things", Made.order(0, 1), 0, 1, 1, 0, 0, 0, 0);
        toldDue("no posts", Made.net(0, 0), 0, 2, 0, 0, 0, 0, 0);
        toldDue("no squares", Made.board(1, 0, 0, 0, 0, 0, 0, 0), 0, 0, 1, 0, 0, 0, 0);
    }

    private void promise13ToldOfFullOnes() {
        toldDue("twelve things", Made.order(12, 0), 0, 1, 0, 12, 12, 0, 4095);
        toldDue("six posts", Made.net(6, 1), 0, 2, 1, 6, 6, 0, 63);
        toldDue("six posts and nine roads", Made.fullNet(0), 0, 2, 0, 15, 15, 0, 63 + 64 * 511);
        toldDue("the full board", Made.rows(7, 7, 1), 0, 0, 1, 49, 49, 0, 3431);
    }

    private void promise13ToldOfEndedOnes() {
        BittenBoards x = Made.chain(12, 1);
        x.play(0, 0);
        toldDue("all things went", x, 0, 1, 1, 0, 0, 1, 0);
        BittenBoards y = Made.fullNet(0);
        for (int k = 0; k < 6; k++) {
            y.play(0, 0);
        }
        toldDue("all posts went", y, 0, 2, 0, 0, 0, 6, 0);
        BittenBoards z = Made.rows(7, 7, 0);
        z.play(0, 0);
        toldDue("all squares went", z, 0, 0, 0, 0, 0, 1, 0);
    }

    // ---- squares

    private void promise2RowsOfEverySize() {
        for (int h = 1; h <= 7; h++) {
            for (int w = 1; w <= 7; w++) {
                String name = h + " rows of " + w;
                int[] rows = new int[7];
                for (int r = 0; r < h; r++) {
                    rows[r] = w;
                }
                BittenBoards x = Made.rows(h, w, w % 2);
                toldDue(name, x, 0, 0, w % 2, h * w, h * w, 0, Reference.rankOf(rows));
                rowsDue(name, x, 0, rows);
                due(name + ": row of the last", x.bite(0, h * w - 1, 0), h - 1);
                due(name + ": column of the last", x.bite(0, h * w - 1, 1), w - 1);
                due(name + ": none behind it", x.bite(0, h * w, 0), NONE);
            }
        }
    }

    private void promise7RowAsLongAsTheOneAhead() {
        for (int ahead = 0; ahead <= 7; ahead++) {
            BittenBoards x = Made.rows(1, 7, 0);
            due("row 0 of " + ahead, x.row(0, 0, ahead), ahead);
            for (int r = 1; r <= 6; r++) {
                String name = "row " + r + " behind one of " + ahead;
                due(name + ", longer", x.row(0, r, ahead + 1), ahead == 7 ? OUTSIDE : NOT);
                due(name + ", as long", x.row(0, r, ahead), (r + 1) * ahead);
            }
        }
        due("row 0 has none ahead", Made.rows(7, 1, 0).row(0, 0, 7), 13);
    }

    private void promise7RowsBehindAreCut() {
        for (int row = 0; row <= 6; row++) {
            for (int v = 0; v <= 7; v++) {
                int[] rows = {7, 7, 6, 5, 5, 2, 1};
                BittenBoards x = Made.board(0, rows);
                String name = "row " + row + " becomes " + v;
                if (row > 0 && v > rows[row - 1]) {
                    due(name, x.row(0, row, v), NOT);
                    rowsDue(name, x, 0, rows);
                    continue;
                }
                rows[row] = v;
                int squares = 0;
                for (int r = 0; r < 7; r++) {
                    rows[r] = r > row ? Math.min(rows[r], v) : rows[r];
                    squares += rows[r];
                }
                due(name, x.row(0, row, v), squares);
                rowsDue(name, x, 0, rows);
            }
        }
    }

    private void promise7FromNothingToTheFullBoard() {
        BittenBoards x = Made.rows(1, 1, 0);
        due("nothing", x.row(0, 0, 0), 0);
        due("nothing is the board 0", x.told(0, 5), 0);
        for (int r = 0; r <= 6; r++) {
            due("row " + r + " is full", x.row(0, r, 7), 7 * (r + 1));
        }
        due("all is the board 3431", x.told(0, 5), 3431);
        due("all but the last square", x.row(0, 6, 6), 48);
        due("is the board 3430", x.told(0, 5), 3430);
        due("row 0 to 0 cuts all", x.row(0, 0, 0), 0);
    }

    private void promise15SquaresByRowThenColumn() {
        int[][] boards = {
            {7, 7, 7, 7, 7, 7, 7}, {7, 6, 5, 4, 3, 2, 1}, {1, 1, 1, 1, 1, 1, 1}, {7, 0, 0, 0, 0, 0, 0},
            {5, 5, 1, 1, 0, 0, 0}, {0, 0, 0, 0, 0, 0, 0}};
        for (int[] rows : boards) {
            BittenBoards x = Made.board(0, rows);
            int i = 0;
            for (int r = 0; r < 7; r++) {
                for (int c = 0; c < rows[r]; c++) {
                    due("row of bite " + i, x.bite(0, i, 0), r);
                    due("column of bite " + i, x.bite(0, i, 1), c);
                    i++;
                }
            }
            due("none behind the last", x.bite(0, i, 0), NONE);
            due("none behind the last, too", x.bite(0, i, 1), NONE);
            due("nor winning", x.bite(0, i, 2), NONE);
        }
    }

    private void promise22EverySquareOfTheFullBoard() {
        BittenBoards x = Made.rows(7, 7, 0);
        for (int i = 0; i < 49; i++) {
            int[] rows = new int[7];
            for (int r = 0; r < 7; r++) {
                rows[r] = r < i / 7 ? 7 : i % 7;
            }
            due("bite " + i + " of the full board", x.play(0, i), Reference.rankOf(rows));
            due("none is left after it is taken back", x.back(0), 0);
        }
    }

    private void promise22ShorterRowsStay() {
        BittenBoards x = Made.board(1, 7, 4, 4, 2, 2, 1, 0);
        due("row 0 from square 3 on", x.play(0, 3), Reference.rankOf(3, 3, 3, 2, 2, 1, 0));
        due("row 2 from square 1 on", x.play(0, 7), Reference.rankOf(3, 3, 1, 1, 1, 1, 0));
        due("the last square of all", x.play(0, 9), Reference.rankOf(3, 3, 1, 1, 1, 0, 0));
        due("row 0 from square 2 on", x.play(0, 2), Reference.rankOf(2, 2, 1, 1, 1, 0, 0));
        due("row 1 from square 0 on", x.play(0, 2), Reference.rankOf(2, 0, 0, 0, 0, 0, 0));
        due("row 0 from square 0 on", x.play(0, 0), 0);
    }

    private void promise21EveryRank() {
        int[] last = {0, 0, 0, 0, 0, 0, 0};
        BittenBoards x = new BittenBoards();
        for (int rank = 0; rank <= 3431; rank++) {
            if (rank % 50 == 0) {
                x = new BittenBoards();
            }
            int[] rows = new int[7];
            int compared = 0;
            boolean falls = true;
            for (int r = 0; r < 7; r++) {
                rows[r] = x.ranked(rank, r);
                falls = falls && rows[r] >= 0 && rows[r] <= (r == 0 ? 7 : rows[r - 1]);
                compared = compared == 0 ? Integer.compare(rows[r], last[r]) : compared;
            }
            checks.holds("the rows of " + rank + " fall", falls);
            due(rank + " is above the one ahead", compared, rank == 0 ? 0 : 1);
            last = rows;
        }
        for (int r = 0; r < 7; r++) {
            due("the last one is full", last[r], 7);
        }
    }

    // ---- sets

    private static List<Integer> divisorsOf(int n) {
        List<Integer> all = new ArrayList<>();
        for (int d = 1; d <= n; d++) {
            if (n % d == 0) {
                all.add(d);
            }
        }
        return all;
    }

    private void promise4EveryNumber() {
        BittenBoards x = new BittenBoards();
        for (int n = 1; n <= 10000; n++) {
            if (n % 100 == 0) {
                x = new BittenBoards();
            }
            int many = divisorsOf(n).size();
            due("divisors(" + n + ")", x.divisors(n, n % 2), many > 12 ? OUTSIDE : 0);
            due("things of " + n, x.told(0, 2), many > 12 ? UNKNOWN : many);
            x.clear();
        }
    }

    private void promise4BoundsOfNumbers() {
        BittenBoards x = new BittenBoards();
        due("0", x.divisors(0, 0), OUTSIDE);
        due("1 is the least", x.divisors(1, 0), 0);
        due("1 has itself alone", x.told(0, 5), 1);
        due("9999 has 12", x.divisors(9999, 1), 1);
        due("all of them are there", x.told(1, 5), 4095);
        due("10000 has more", x.divisors(10000, 0), OUTSIDE);
        due("10001 has 4, but is too great", x.divisors(10001, 0), OUTSIDE);
        due("1024 has 11", x.divisors(1024, 0), 2);
        due("2048 has 12", x.divisors(2048, 0), 3);
        due("4096 has 13", x.divisors(4096, 0), OUTSIDE);
        due("192 has 14", x.divisors(192, 0), OUTSIDE);
        due("9973 is a prime", x.divisors(9973, 0), 4);
        due("it has 2", x.told(4, 5), 3);
    }

    private void promise4RisingAndBelowMultiples() {
        BittenBoards x = new BittenBoards();
        x.divisors(60, 0);
        for (int a = 0; a < 12; a++) {
            int multiples = 0;
            for (int b = 0; b < 12; b++) {
                boolean isBelow = a != b && SIXTY[b] % SIXTY[a] == 0;
                multiples += isBelow ? 1 : 0;
                due(SIXTY[a] + " below " + SIXTY[b], x.isBelow(0, a, b), isBelow ? 1 : 0);
            }
            due("by " + SIXTY[a] + " go", x.bite(0, a, 1), multiples + 1);
        }
        BittenBoards y = new BittenBoards();
        y.divisors(1, 0);
        due("1 is not below itself", y.isBelow(0, 0, 0), 0);
        due("and goes alone", y.bite(0, 0, 1), 1);
    }

    private void promise8TwelveThings() {
        BittenBoards x = Made.order(0, 0);
        due("none is there to bite", x.bite(0, 0, 0), NONE);
        for (int k = 0; k < 12; k++) {
            due("thing " + k, x.thing(0), k);
            due("so many are there", x.told(0, 2), k + 1);
            due("its number in the set", x.told(0, 5), (1 << (k + 1)) - 1);
            due("it goes alone", x.bite(0, k, 1), 1);
        }
        due("a thirteenth", x.thing(0), FULL);
    }

    private void promise8AfterDivisors() {
        BittenBoards x = new BittenBoards();
        x.divisors(1024, 0);
        due("a twelfth behind eleven", x.thing(0), 11);
        due("it is below none", x.isBelow(0, 11, 0), 0);
        due("nothing is below it", x.isBelow(0, 0, 11), 0);
        due("a thirteenth", x.thing(0), FULL);
        x.divisors(2048, 0);
        due("a thirteenth behind twelve", x.thing(1), FULL);
    }

    private void promise9ChainsOfTwelve() {
        BittenBoards rising = Made.order(12, 0);
        BittenBoards falling = Made.order(12, 0);
        for (int k = 1; k <= 11; k++) {
            due("rising chain, pairs", rising.below(0, k - 1, k), k * (k + 1) / 2);
            due("falling chain, pairs", falling.below(0, 11 - k, 12 - k), k * (k + 1) / 2);
        }
        for (int a = 0; a < 12; a++) {
            for (int b = 0; b < 12; b++) {
                due("rising: " + a + " below " + b, rising.isBelow(0, a, b), a < b ? 1 : 0);
                due("falling: " + a + " below " + b, falling.isBelow(0, a, b), a < b ? 1 : 0);
            }
        }
        due("none of 66 is new", rising.below(0, 0, 11), 66);
        due("the last can't be below the first", rising.below(0, 11, 0), NOT);
        due("all go by the first", rising.bite(0, 0, 1), 12);
        due("the last goes alone", rising.bite(0, 11, 1), 1);
    }

    private void promise9TwoChainsBecomeOne() {
        BittenBoards x = Made.order(12, 1);
        for (int k = 1; k < 6; k++) {
            x.below(0, k - 1, k);
            x.below(0, k + 5, k + 6);
        }
        due("15 and 15 and all that follows", x.below(0, 5, 6), 66);
        due("the first is below the last", x.isBelow(0, 0, 11), 1);
        due("the last is not below the first", x.isBelow(0, 11, 0), 0);
        due("nothing is below itself", x.isBelow(0, 5, 5), 0);
    }

    private void promise9OneBelowAll() {
        BittenBoards x = Made.order(12, 1);
        BittenBoards y = Made.order(12, 1);
        for (int k = 1; k < 12; k++) {
            due("0 below " + k, x.below(0, 0, k), k);
            due(k + " below 0", y.below(0, k, 0), k);
        }
        due("two that are above one are apart", x.isBelow(0, 1, 2), 0);
        due("two that are below one are apart", y.isBelow(0, 1, 2), 0);
        due("all goes with 0", x.play(0, 0), 0);
        due("0 alone goes with itself", y.play(0, 0), 4094);
    }

    private void promise10SixPosts() {
        BittenBoards x = Made.net(0, 0);
        due("none is there to bite", x.bite(0, 0, 0), NONE);
        for (int k = 0; k < 6; k++) {
            due("post " + k, x.post(0), k);
            due("so many are there", x.told(0, 2), k + 1);
            due("its number in the set", x.told(0, 5), (1 << (k + 1)) - 1);
        }
        due("a seventh", x.post(0), FULL);
        due("a seventh where there are roads", Made.fullNet(0).post(0), FULL);
        BittenBoards y = Made.net(2, 0);
        y.road(0, 0, 1);
        due("a post behind a road", y.post(0), 2);
        due("the road is no post", y.told(0, 5), 7 + 64);
    }

    private void promise11RoadsOfEveryPair() {
        BittenBoards x = new BittenBoards();
        int g = -1;
        int road = 9;
        for (int a = 0; a < 6; a++) {
            for (int b = 0; b < 6; b++) {
                if (a == b) {
                    continue;
                }
                if (road == 9) {
                    road = 0;
                    g = x.net(0);
                    for (int k = 0; k < 6; k++) {
                        x.post(g);
                    }
                }
                due("road from " + a + " to " + b, x.road(g, a, b), road);
                roadIsAt(x, g, road, a, b);
                road++;
            }
        }
    }

    private void roadIsAt(BittenBoards x, int g, int road, int a, int b) {
        for (int post = 0; post < 6; post++) {
            int goes = post == a || post == b ? 0 : 1;
            due("road " + road + " after post " + post + " went", x.play(g, post) >> (6 + road) & 1, goes);
            x.back(g);
        }
    }

    private void promise11NineRoadsBetweenTwo() {
        BittenBoards x = Made.net(2, 1);
        for (int k = 0; k < 9; k++) {
            due("road " + k + " between the same two", x.road(0, k % 2, 1 - k % 2), k);
            due("its number in the set", x.told(0, 5), 3 + 64 * ((1 << (k + 1)) - 1));
        }
        due("a tenth", x.road(0, 0, 1), FULL);
        due("by post 0 all roads go", x.bite(0, 0, 1), 10);
        due("by post 1 all roads go", x.bite(0, 1, 1), 10);
        due("road 8 goes alone", x.bite(0, 10, 1), 1);
        due("post 0 is left", x.play(0, 1), 1);
    }

    private void promise11FewPosts() {
        due("a road without posts", Made.net(0, 0).road(0, 0, 1), UNKNOWN);
        due("a road without posts, to itself", Made.net(0, 0).road(0, 0, 0), UNKNOWN);
        due("a road of one post", Made.net(1, 0).road(0, 0, 1), UNKNOWN);
        due("a road of one post to itself", Made.net(1, 0).road(0, 0, 0), NOT);
        due("a road of two posts", Made.net(2, 0).road(0, 1, 0), 0);
    }

    private void promise15Things() {
        BittenBoards x = Made.chain(12, 0);
        for (int i = 0; i < 12; i++) {
            due("thing of bite " + i, x.bite(0, i, 0), i);
            due("so many go by it", x.bite(0, i, 1), 12 - i);
        }
        x.play(0, 11);
        due("what went is not counted", x.bite(0, 0, 1), 11);
        due("the last that is there", x.bite(0, 10, 0), 10);
        due("none behind it", x.bite(0, 11, 0), NONE);
        BittenBoards y = Made.order(12, 0);
        y.play(0, 0);
        y.play(0, 4);
        int[] left = {1, 2, 3, 4, 6, 7, 8, 9, 10, 11};
        for (int i = 0; i < left.length; i++) {
            due("thing of bite " + i + " without 0 and 5", y.bite(0, i, 0), left[i]);
        }
        due("none behind them", y.bite(0, 10, 0), NONE);
    }

    private void promise15PostsThenRoads() {
        BittenBoards x = Made.fullNet(0);
        int[] roadsAt = {5, 5, 2, 2, 2, 2};
        for (int i = 0; i < 15; i++) {
            due("place of bite " + i, x.bite(0, i, 0), i < 6 ? i : 10 + i - 6);
            due("so many go by it", x.bite(0, i, 1), i < 6 ? 1 + roadsAt[i] : 1);
        }
        due("none behind the last road", x.bite(0, 15, 0), NONE);
        x.play(0, 14);
        due("without road 8 a road less goes by post 0", x.bite(0, 0, 1), 5);
        x.play(0, 1);
        int[] left = {0, 2, 3, 4, 5, 12, 13, 14, 15};
        for (int i = 0; i < left.length; i++) {
            due("place of bite " + i + " without post 1", x.bite(0, i, 0), left[i]);
        }
        due("none behind them", x.bite(0, 9, 0), NONE);
    }

    // ---- solved

    private void endDue(String name, BittenBoards x) {
        for (int rule = 0; rule <= 1; rule++) {
            x.rule(0, rule);
            due(name + ": won by rule " + rule, x.won(0), 1 - rule);
            due(name + ": worth", x.worth(0), 0);
            due(name + ": length by rule " + rule, x.length(0), 0);
            due(name + ": winning bites", x.winning(0), 0);
            due(name + ": bites", x.told(0, 3), 0);
            due(name + ": none to look at", x.bite(0, 0, 2), NONE);
            due(name + ": none to do", x.play(0, 0), NOT);
            due(name + ": none for the house", x.answer(0), NOT);
            due(name + ": sum", x.sum(1), 0);
            due(name + ": none in a sum", x.inSum(1, 0), NONE);
        }
    }

    private void endsOfEachKind() {
        endDue("no things", Made.order(0, 0));
        endDue("no posts", Made.net(0, 0));
        endDue("no squares", Made.board(0, 0, 0, 0, 0, 0, 0, 0));
        BittenBoards x = Made.chain(12, 0);
        x.play(0, 0);
        endDue("all things went", x);
        BittenBoards y = Made.fullNet(0);
        for (int k = 0; k < 6; k++) {
            y.play(0, 0);
        }
        endDue("all posts went", y);
        BittenBoards z = Made.rows(7, 7, 0);
        z.play(0, 0);
        endDue("all squares went", z);
    }

    private void oneBiteLeftOfEachKind() {
        BittenBoards[] all = {Made.order(1, 0), Made.net(1, 0), Made.rows(1, 1, 0)};
        for (BittenBoards x : all) {
            for (int rule = 0; rule <= 1; rule++) {
                x.rule(0, rule);
                due("one bite by rule " + rule + ": won", x.won(0), rule);
                due("one bite: worth", x.worth(0), 1);
                due("one bite: length", x.length(0), 1);
                due("one bite by rule " + rule + ": winning ones", x.winning(0), rule);
                due("one bite by rule " + rule + ": it is winning", x.bite(0, 0, 2), rule);
            }
        }
    }

    private void fullBoard() {
        BittenBoards x = Made.rows(7, 7, 0);
        due("full by rule 0: won", x.won(0), 1);
        due("two arms of six, taken down by pairs", x.length(0), 14);
        due("one bite alone wins", x.winning(0), 1);
        due("the one at row 1, square 1", x.bite(0, 8, 2), 1);
        due("not the first", x.bite(0, 0, 2), 0);
        due("not the last", x.bite(0, 48, 2), 0);
        x.rule(0, 1);
        due("full by rule 1: won", x.won(0), 1);
        due("all at once", x.length(0), 1);
        due("one bite alone wins by rule 1", x.winning(0), 1);
        due("the first", x.bite(0, 0, 2), 1);
    }

    private void fullOrders() {
        for (int rule = 0; rule <= 1; rule++) {
            BittenBoards apart = Made.order(12, rule);
            due("twelve apart: won by rule " + rule, apart.won(0), 1 - rule);
            due("twelve apart: worth", apart.worth(0), 0);
            due("twelve apart: length", apart.length(0), 12);
            due("twelve apart: winning ones", apart.winning(0), rule == 0 ? 12 : 0);
            BittenBoards chain = Made.chain(12, rule);
            due("chain of twelve: won", chain.won(0), 1);
            due("chain of twelve: worth", chain.worth(0), 12);
            due("chain of twelve: length", chain.length(0), 2 - rule);
            due("chain of twelve: winning ones", chain.winning(0), 1);
            due("chain of twelve: the winning one", chain.bite(0, 1 - rule, 2), 1);
        }
    }

    private void fullNets() {
        for (int rule = 0; rule <= 1; rule++) {
            BittenBoards posts = Made.net(6, rule);
            due("six posts: won by rule " + rule, posts.won(0), 1 - rule);
            due("six posts: worth", posts.worth(0), 0);
            due("six posts: length", posts.length(0), 6);
            BittenBoards roads = Made.net(2, rule);
            for (int k = 0; k < 9; k++) {
                roads.road(0, 0, 1);
            }
            // One post is worth 1; two of them with roads 2 or 0, as these are odd or even.
            due("nine roads: won", roads.won(0), 1);
            due("nine roads: worth", roads.worth(0), 2);
            due("nine roads: winning ones", roads.winning(0), rule == 0 ? 2 : 9);
            due("nine roads: length", roads.length(0), rule == 0 ? 2 : 11);
        }
    }

    private void promise19WinningBites() {
        due("none of twelve apart", Made.order(12, 1).winning(0), 0);
        due("each of eleven apart", Made.order(11, 1).winning(0), 11);
        due("each of six posts by rule 0", Made.net(6, 0).winning(0), 6);
        due("none of five posts by rule 0", Made.net(5, 0).winning(0), 0);
        due("one of seven squares in a row", Made.rows(1, 7, 0).winning(0), 1);
        due("none of one square", Made.rows(1, 1, 0).winning(0), 0);
        for (int k = 0; k < 12; k++) {
            due("bite " + k + " of eleven", Made.order(11, 1).bite(0, k, 2), k < 11 ? 1 : NONE);
        }
    }

    private static int ways(int h, int w) {
        return h == 0 || w == 0 ? 1 : ways(h - 1, w) + ways(h, w - 1);
    }

    private void promise20BoardsOfEachSize() {
        BittenBoards x = new BittenBoards();
        BittenBoards used = Made.six();
        for (int h = 0; h <= 7; h++) {
            for (int w = 0; w <= 7; w++) {
                String name = "boards within " + h + " rows of " + w;
                due(name, x.boards(h, w, 0), ways(h, w));
                due(name + ", games or not", used.boards(h, w, 0), ways(h, w));
                due(name + ", turned: lost", x.boards(h, w, 1), x.boards(w, h, 1));
                due(name + ", turned: worth", x.boards(h, w, 2), x.boards(w, h, 2));
            }
        }
    }

    private void promise20LeastBoards() {
        BittenBoards x = new BittenBoards();
        for (int k = 0; k <= 7; k++) {
            due("no row: the empty board", x.boards(0, k, 0), 1);
            due("no square: the empty board", x.boards(k, 0, 0), 1);
            due("no row: it is won", x.boards(0, k, 1), 0);
            due("no square: it is won", x.boards(k, 0, 1), 0);
            due("no row: its worth", x.boards(0, k, 2), 0);
            due("no square: its worth", x.boards(k, 0, 2), 0);
            due("one row: one square is lost", x.boards(1, k, 1), k == 0 ? 0 : 1);
            due("one row: it is a heap", x.boards(1, k, 2), k);
            due("one column: it is a heap", x.boards(k, 1, 2), k);
        }
    }

    /** Nothing was solved before: each question is the first one that a new object is asked. */
    private void eachQuestionFirst() {
        due("first: boards", new BittenBoards().boards(7, 7, 0), 3432);
        due("first: lost boards", new BittenBoards().boards(7, 7, 1), 129);
        due("first: greatest worth", new BittenBoards().boards(1, 7, 2), 7);
        due("first: ranked", new BittenBoards().ranked(3431, 6), 7);
        firstDue("rows", 0, 2, 1);
        firstDue("an order", 1, 2, 1);
        // By rule 0 the road is bitten, that leaves three posts apart.
        firstDue("a net", 2, 4, 3);
    }

    private void firstDue(String name, int kind, int length, int answer) {
        String first = "first of " + name + ": ";
        due(first + "won", worthThree(kind).won(0), 1);
        due(first + "worth", worthThree(kind).worth(0), 3);
        due(first + "length", worthThree(kind).length(0), length);
        due(first + "winning", worthThree(kind).winning(0), 1);
        due(first + "bite", worthThree(kind).bite(0, answer, 2), 1);
        due(first + "answer", worthThree(kind).answer(0), answer);
        due(first + "sum", worthThree(kind).sum(1), 3);
        due(first + "inSum", worthThree(kind).inSum(1, 1), 0);
    }

    private static BittenBoards worthThree(int kind) {
        return kind == 0 ? Made.rows(1, 3, 0) : kind == 1 ? Made.chain(3, 0) : threeInANet();
    }

    private static BittenBoards threeInANet() {
        BittenBoards x = Made.net(3, 0);
        x.road(0, 0, 1);
        return x;
    }

    // ---- plays

    private void promise22FirstAndLastBite() {
        BittenBoards x = Made.order(12, 0);
        due("the first of twelve", x.play(0, 0), 4094);
        due("the last of eleven", x.play(0, 10), 2046);
        due("behind the last", x.play(0, 10), NOT);
        BittenBoards y = Made.fullNet(0);
        due("the last road", y.play(0, 14), 63 + 64 * 255);
        due("behind the last", y.play(0, 14), NOT);
        due("the last post", y.play(0, 5), 31 + 64 * (255 - 16 - 32));
        due("the first road", y.play(0, 5), 31 + 64 * (255 - 1 - 16 - 32));
        due("the first post", y.play(0, 0), 30 + 64 * 14);
        due("the state as told", y.told(0, 5), 30 + 64 * 14);
    }

    /** The longest play that there can be: fewer than the 100 that would be too many. */
    private void fortyNineBites() {
        BittenBoards x = Made.rows(7, 7, 0);
        int[] rows = {7, 7, 7, 7, 7, 7, 7};
        for (int k = 0; k < 49; k++) {
            rows[6 - k / 7]--;
            due("square " + (48 - k) + " goes", x.play(0, 48 - k), Reference.rankOf(rows));
            due("so many are noted", x.told(0, 4), k + 1);
        }
        due("no fiftieth", x.play(0, 0), NOT);
        due("nor for the house", x.answer(0), NOT);
        for (int k = 0; k < 49; k++) {
            due("noted " + k, x.noted(0, k), 48 - k);
        }
        due("noted 49", x.noted(0, 49), NONE);
        for (int k = 48; k >= 0; k--) {
            due("so many are left", x.back(0), k);
        }
        due("the full board again", x.told(0, 5), 3431);
        due("none is left", x.back(0), NOT);
    }

    private void promise23TheLastBite() {
        BittenBoards[] all = {Made.order(1, 0), Made.net(1, 1), Made.rows(1, 1, 0)};
        for (BittenBoards x : all) {
            due("the only bite, lost or won", x.answer(0), 0);
            due("it has ended", x.told(0, 3), 0);
            due("it is noted", x.noted(0, 0), 0);
            due("no answer any more", x.answer(0), NOT);
            due("still one is noted", x.told(0, 4), 1);
        }
    }

    private void promise23WinningBites() {
        due("the first of eleven that win", Made.order(11, 1).answer(0), 0);
        due("all but one square", Made.rows(1, 7, 0).answer(0), 1);
        due("all squares", Made.rows(7, 7, 1).answer(0), 0);
        due("row 1, square 1", Made.rows(7, 7, 0).answer(0), 8);
        // Who bites last wins by an even number of things apart, and loses by an odd one.
        BittenBoards w = Made.order(12, 1);
        w.below(0, 10, 11);
        due("ten apart and two in a chain: both of these", w.answer(0), 10);
        due("ten are left", w.told(0, 5), 1023);
        BittenBoards x = Made.order(12, 0);
        x.below(0, 10, 11);
        due("ten apart and two in a chain by rule 0: the upper one", x.answer(0), 11);
        due("eleven are left", x.told(0, 5), 2047);
        BittenBoards y = Made.net(2, 1);
        y.road(0, 0, 1);
        due("the last bite: the road", y.answer(0), 2);
        due("two posts are left", y.told(0, 5), 3);
        // By rule 0 a post, that leaves one, not the road.
        BittenBoards z = Made.net(2, 0);
        z.road(0, 0, 1);
        due("the first of two posts", z.answer(0), 0);
        due("one post is left", z.told(0, 5), 2);
    }

    private void promise23LongestBites() {
        due("lost, all as long: the first", Made.order(12, 1).answer(0), 0);
        // 3, 1, 1 is lost by rule 0; a bite of a whole arm lets the other side end it by one more.
        BittenBoards x = Made.board(0, 3, 1, 1, 0, 0, 0, 0);
        due("two arms of two are lost", x.won(0), 0);
        due("five bites", x.length(0), 5);
        due("not the first two, that give it away", x.answer(0), 2);
        due("the other arm follows", x.answer(0), 3);
        due("two arms of one", x.told(0, 5), Reference.rankOf(2, 1, 0, 0, 0, 0, 0));
        // 2, 1 is lost, too: the first square ends it at once, the others leave two squares.
        due("the second", x.answer(0), 1);
        due("all but one", x.answer(0), 1);
        due("the last one", x.answer(0), 0);
        due("as long as was told", x.told(0, 4), 5);
    }

    private void promise24BackToTheFirst() {
        BittenBoards x = Made.fullNet(1);
        int[] states = new int[7];
        for (int k = 0; k <= 5; k++) {
            states[k] = x.told(0, 5);
            x.answer(0);
        }
        for (int k = 5; k >= 0; k--) {
            due("so many are noted", x.back(0), k);
            due("the state before", x.told(0, 5), states[k]);
        }
        due("all is there", x.told(0, 5), 63 + 64 * 511);
        due("none is noted", x.back(0), NOT);
        due("all is there still", x.told(0, 5), 63 + 64 * 511);
    }

    private void promise25NotedNothing() {
        BittenBoards x = Made.sixOrders();
        for (int g = 0; g < 6; g++) {
            due("nothing is noted of " + g, x.noted(g, 0), NONE);
        }
        BittenBoards y = Made.order(12, 0);
        for (int k = 0; k < 12; k++) {
            y.play(0, 11 - k);
            due("the first", y.noted(0, 0), 11);
            due("the latest", y.noted(0, k), 11 - k);
            due("none behind it", y.noted(0, k + 1), NONE);
        }
    }

    // ---- sums

    private void promise26LeastAndGreatestSets() {
        BittenBoards x = new BittenBoards();
        for (int k = 0; k < 6; k++) {
            x.rows(1, k + 1, k % 2);
            due("all games up to " + k, x.sum((2 << k) - 1), xorTo(k + 1));
            due("game " + k + " alone", x.sum(1 << k), k + 1);
            due("the next one is not there", x.sum(2 << k), OUTSIDE);
        }
        for (int set = 1; set <= 63; set++) {
            int worth = 0;
            for (int k = 0; k < 6; k++) {
                worth ^= (set >> k & 1) * (k + 1);
            }
            due("set " + set, x.sum(set), worth);
        }
        due("64", x.sum(64), OUTSIDE);
    }

    private static int xorTo(int last) {
        int all = 0;
        for (int k = 1; k <= last; k++) {
            all ^= k;
        }
        return all;
    }

    private void promise26EachFigureByItself() {
        BittenBoards x = new BittenBoards();
        putChain(x, 0, 12);
        putChain(x, 1, 10);
        putChain(x, 2, 7);
        due("12 and 10: 1100 and 1010", x.sum(3), 6);
        due("12 and 7: 1100 and 0111", x.sum(5), 11);
        due("10 and 7: 1010 and 0111", x.sum(6), 13);
        due("all of them", x.sum(7), 1);
    }

    private static void putChain(BittenBoards x, int g, int many) {
        x.order(g % 2);
        for (int k = 0; k < many; k++) {
            x.thing(g);
        }
        for (int k = 1; k < many; k++) {
            x.below(g, k - 1, k);
        }
    }

    private void promise27FirstGameThenFirstBite() {
        BittenBoards x = Made.order(3, 0);
        x.order(1);
        x.thing(1);
        x.net(0);
        x.post(2);
        due("each of three games wins: the first", x.inSum(7, 0), 0);
        due("each of three things wins: the first", x.inSum(7, 1), 0);
        due("without game 0 there is none", x.inSum(6, 0), NONE);
        due("nor a bite", x.inSum(6, 1), NONE);
        due("game 2 alone", x.inSum(4, 0), 2);
        BittenBoards y = new BittenBoards();
        for (int k = 0; k < 6; k++) {
            y.rows(1, 1, 0);
        }
        due("six of worth 1: none", y.inSum(63, 0), NONE);
        y.row(5, 0, 7);
        due("the last game: 7 becomes 1", y.inSum(63, 0), 5);
        due("the last game: all but one square", y.inSum(63, 1), 1);
        due("the last game alone", y.inSum(32, 1), 0);
        y.row(5, 0, 0);
        due("five of worth 1: the first", y.inSum(63, 0), 0);
        y.play(0, 0);
        due("four of worth 1: none", y.inSum(63, 0), NONE);
    }

    private void promise27WorthsThatRise() {
        BittenBoards x = Made.net(3, 0);
        x.road(0, 0, 1);
        x.road(0, 1, 2);
        x.road(0, 2, 0);
        x.rows(1, 1, 0);
        due("0 and 1", x.sum(3), 1);
        due("the ring becomes 1: the game", x.inSum(3, 0), 0);
        due("the ring becomes 1: road 0", x.inSum(3, 1), 3);
        x.play(0, x.inSum(3, 1));
        due("0 is left", x.sum(3), 0);
    }

    private void promise27AnyRule() {
        for (int rules = 0; rules <= 3; rules++) {
            BittenBoards x = Made.rows(1, 3, rules & 1);
            x.rows(1, 5, rules >> 1);
            due("3 and 5, any rules", x.sum(3), 6);
            due("game 1, any rules", x.inSum(3, 0), 1);
            due("bite 3, any rules", x.inSum(3, 1), 3);
        }
    }

    /** An object is used for at most 512 calls: the last ones are still answered rightly. */
    private void theLastCalls() {
        BittenBoards x = new BittenBoards();
        x.rows(7, 7, 0);
        for (int k = 0; k < 250; k++) {
            x.play(0, 48);
            x.back(0);
        }
        due("call 502", x.told(0, 5), 3431);
        due("call 503", x.answer(0), 8);
        due("call 504", x.noted(0, 0), 8);
        due("call 505", x.won(0), 0);
        due("call 506", x.length(0), 13);
        due("call 507", x.order(1), 1);
        due("call 508", x.thing(1), 0);
        due("call 509", x.worth(1), 1);
        due("call 510", x.back(0), 0);
        due("call 511", x.boards(7, 7, 0), 3432);
        due("call 512", x.clear(), 2);
    }
}
