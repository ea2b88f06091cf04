/**
 * Each promise by itself: ordinary calls, the edges that the document names, and each refusal, of
 * several the first in the document's order.
 */
final class PromiseTests {
    private static final int NONE = -1, UNKNOWN = -1001, OUTSIDE = -1002, NOT = -1003, FULL = -1004;
    private static final int LEAST = Integer.MIN_VALUE, GREATEST = Integer.MAX_VALUE;

    private final Checks checks;

    private PromiseTests(Checks checks) {
        this.checks = checks;
    }

    static void run(Checks checks) {
        PromiseTests tests = new PromiseTests(checks);
        tests.constants();
        tests.promise1NewObject();
        tests.promise2Rows();
        tests.promise3Order();
        tests.promise4Divisors();
        tests.promise5Net();
        tests.promise6Clear();
        tests.promise7Row();
        tests.promise8Thing();
        tests.promise9Below();
        tests.promise10Post();
        tests.promise11Road();
        tests.promise12Rule();
        tests.promise13Told();
        tests.promise14IsBelow();
        tests.promise15Bite();
        tests.promise16Won();
        tests.promise17Worth();
        tests.promise18Length();
        tests.promise19Winning();
        tests.promise20Boards();
        tests.promise21Ranked();
        tests.promise22Play();
        tests.promise23Answer();
        tests.promise24Back();
        tests.promise25Noted();
        tests.promise26Sum();
        tests.promise27InSum();
        tests.refusalsChangeNothing();
        tests.anyArguments();
    }

    private void due(String call, long got, long want) {
        checks.due(call, got, want);
    }

    private void constants() {
        due("NONE", BittenBoards.NONE, NONE);
        due("UNKNOWN", BittenBoards.UNKNOWN, UNKNOWN);
        due("OUTSIDE", BittenBoards.OUTSIDE, OUTSIDE);
        due("NOT", BittenBoards.NOT, NOT);
        due("FULL", BittenBoards.FULL, FULL);
    }

    private void promise1NewObject() {
        BittenBoards x = new BittenBoards();
        for (int g = -1; g <= 6; g++) {
            due("a new object has no game " + g, x.told(g, 0), UNKNOWN);
        }
        due("nothing to clear", x.clear(), 0);
    }

    private void promise2Rows() {
        BittenBoards x = new BittenBoards();
        due("first rows", x.rows(3, 5, 1), 0);
        due("second rows", x.rows(7, 7, 0), 1);
        due("least rows", x.rows(1, 1, 0), 2);
        due("kind", x.told(0, 0), 0);
        due("rule", x.told(0, 1), 1);
        due("squares of 3 x 5", x.told(0, 2), 15);
        due("rank of the full board", x.told(1, 5), 3431);
        due("rank of 1 x 1", x.told(2, 5), 1);
        due("no rows", x.rows(0, 3, 0), OUTSIDE);
        due("too many rows", x.rows(8, 3, 0), OUTSIDE);
        due("no squares", x.rows(3, 0, 0), OUTSIDE);
        due("too many squares", x.rows(3, 8, 0), OUTSIDE);
        due("rule -1", x.rows(3, 3, -1), OUTSIDE);
        due("rule 2", x.rows(3, 3, 2), OUTSIDE);
        due("refused ones made none", x.rows(1, 2, 0), 3);
        due("a seventh", Made.sixOrders().rows(3, 3, 0), FULL);
        due("outside before full: h", Made.sixOrders().rows(8, 3, 0), OUTSIDE);
        due("outside before full: w", Made.sixOrders().rows(3, 0, 0), OUTSIDE);
        due("outside before full: rule", Made.sixOrders().rows(3, 3, 2), OUTSIDE);
    }

    private void promise3Order() {
        BittenBoards x = new BittenBoards();
        due("first order", x.order(0), 0);
        due("second order", x.order(1), 1);
        due("kind", x.told(1, 0), 1);
        due("rule", x.told(1, 1), 1);
        due("things", x.told(1, 2), 0);
        due("state", x.told(1, 5), 0);
        due("rule -1", x.order(-1), OUTSIDE);
        due("rule 2", x.order(2), OUTSIDE);
        due("a seventh", Made.sixOrders().order(0), FULL);
        due("outside before full", Made.sixOrders().order(2), OUTSIDE);
    }

    private void promise4Divisors() {
        BittenBoards x = new BittenBoards();
        due("divisors of 12", x.divisors(12, 1), 0);
        due("kind", x.told(0, 0), 1);
        due("rule", x.told(0, 1), 1);
        due("1 2 3 4 6 12", x.told(0, 2), 6);
        due("all there", x.told(0, 5), 63);
        due("2 below 4", x.isBelow(0, 1, 3), 1);
        due("3 not below 4", x.isBelow(0, 2, 3), 0);
        due("4 not below 6", x.isBelow(0, 3, 4), 0);
        due("4 below 12", x.isBelow(0, 3, 5), 1);
        due("12 not below 1", x.isBelow(0, 5, 0), 0);
        due("one thing", x.divisors(1, 0), 1);
        due("one thing is there", x.told(1, 2), 1);
        due("twelve things", x.divisors(60, 0), 2);
        due("all twelve", x.told(2, 5), 4095);
        due("10000 has 25", x.divisors(10000, 0), OUTSIDE);
        due("9973 is prime", x.divisors(9973, 0), 3);
        due("two things", x.told(3, 2), 2);
        due("none of 0", x.divisors(0, 0), OUTSIDE);
        due("none below 0", x.divisors(-6, 0), OUTSIDE);
        due("none above 10000", x.divisors(10007, 0), OUTSIDE);
        due("13 of 4096", x.divisors(4096, 0), OUTSIDE);
        due("15 of 144", x.divisors(144, 0), OUTSIDE);
        due("rule 2", x.divisors(12, 2), OUTSIDE);
        due("rule -1", x.divisors(12, -1), OUTSIDE);
        due("12 of 2048", x.divisors(2048, 0), 4);
        due("12 in a row", x.told(4, 2), 12);
        due("things may follow", x.thing(3), 2);
        due("a seventh", Made.sixOrders().divisors(12, 0), FULL);
        due("outside before full: n", Made.sixOrders().divisors(0, 0), OUTSIDE);
        due("outside before full: too many", Made.sixOrders().divisors(120, 0), OUTSIDE);
        due("outside before full: rule", Made.sixOrders().divisors(12, 2), OUTSIDE);
    }

    private void promise5Net() {
        BittenBoards x = new BittenBoards();
        due("first net", x.net(1), 0);
        due("second net", x.net(0), 1);
        due("kind", x.told(0, 0), 2);
        due("rule", x.told(0, 1), 1);
        due("posts and roads", x.told(0, 2), 0);
        due("rule -1", x.net(-1), OUTSIDE);
        due("rule 2", x.net(2), OUTSIDE);
        due("a seventh", Made.sixOrders().net(0), FULL);
        due("outside before full", Made.sixOrders().net(-1), OUTSIDE);
    }

    private void promise6Clear() {
        BittenBoards x = Made.sixOrders();
        due("six go", x.clear(), 6);
        due("none is left", x.told(0, 0), UNKNOWN);
        due("nothing more goes", x.clear(), 0);
        due("numbers begin anew", x.net(0), 0);
        due("a net where an order was", x.told(0, 0), 2);
        x.post(0);
        x.post(0);
        x.road(0, 0, 1);
        due("solved as a net", x.worth(0), 2);
        x.clear();
        x.order(1);
        due("nothing of the net stays", x.told(0, 2), 0);
        x.thing(0);
        x.thing(0);
        due("nor of what it took along", x.isBelow(0, 0, 1), 0);
        due("solved anew", x.worth(0), 0);
    }

    private void promise7Row() {
        BittenBoards x = Made.rows(3, 4, 0);
        due("row 0 is longer", x.row(0, 0, 7), 15);
        due("those behind are not", x.told(0, 5), 1716 + 84 + 56);
        due("row 1 is shorter", x.row(0, 1, 2), 11);
        due("row 2 is cut to it", x.told(0, 5), 1716 + 7 + 6);
        due("as long as the row ahead", x.row(0, 2, 2), 11);
        due("above the row ahead", x.row(0, 2, 3), NOT);
        due("above an empty row ahead", x.row(0, 4, 1), NOT);
        due("an empty one more", x.row(0, 6, 0), 11);
        due("play", x.play(0, 8), 1716 + 1 + 1);
        due("row after a bite", x.row(0, 1, 1), 9);
        due("nothing is noted", x.told(0, 4), 0);
        due("row 0 to nothing", x.row(0, 0, 0), 0);
        due("row 7", x.row(0, 7, 0), OUTSIDE);
        due("row -1", x.row(0, -1, 0), OUTSIDE);
        due("8 squares", x.row(0, 0, 8), OUTSIDE);
        due("-1 squares", x.row(0, 0, -1), OUTSIDE);
        due("outside before not", x.row(0, 2, 8), OUTSIDE);
        due("no such game", x.row(1, 0, 1), UNKNOWN);
        due("unknown before outside", x.row(1, 7, 9), UNKNOWN);
        x.order(0);
        due("an order has no row", x.row(1, 0, 1), UNKNOWN);
        x.net(0);
        due("a net has no row", x.row(2, 9, 1), UNKNOWN);
    }

    private void promise8Thing() {
        BittenBoards x = Made.order(0, 0);
        for (int k = 0; k < 12; k++) {
            due("thing " + k, x.thing(0), k);
        }
        due("a thirteenth", x.thing(0), FULL);
        due("twelve are there", x.told(0, 5), 4095);
        BittenBoards y = Made.order(2, 0);
        y.below(0, 0, 1);
        y.play(0, 0);
        due("all gone", y.told(0, 5), 0);
        due("a third", y.thing(0), 2);
        due("all are there", y.told(0, 5), 7);
        due("nothing is noted", y.told(0, 4), 0);
        due("below stays", y.isBelow(0, 0, 1), 1);
        due("the third is below none", y.isBelow(0, 2, 0), 0);
        y.rows(1, 1, 0);
        y.net(0);
        due("rows have no thing", y.thing(1), UNKNOWN);
        due("a net has no thing", y.thing(2), UNKNOWN);
        due("no such game", y.thing(3), UNKNOWN);
        due("no game -1", y.thing(-1), UNKNOWN);
    }

    private void promise9Below() {
        BittenBoards x = Made.order(5, 0);
        due("0 below 1", x.below(0, 0, 1), 1);
        due("2 below 3", x.below(0, 2, 3), 2);
        due("1 below 2, with all that follows", x.below(0, 1, 2), 6);
        due("0 below 3 follows", x.isBelow(0, 0, 3), 1);
        due("0 below 2 follows", x.isBelow(0, 0, 2), 1);
        due("1 below 3 follows", x.isBelow(0, 1, 3), 1);
        x.play(0, 1);
        due("0 and 4 are left", x.told(0, 5), 17);
        due("a pair that is told already", x.below(0, 0, 3), 6);
        due("all are there", x.told(0, 5), 31);
        due("nothing is noted", x.told(0, 4), 0);
        due("things that went may be told of", x.below(0, 4, 0), 10);
        due("one and the same", x.below(0, 2, 2), NOT);
        due("the other way round", x.below(0, 1, 0), NOT);
        due("the other way round, as it follows", x.below(0, 3, 4), NOT);
        due("no thing 5", x.below(0, 0, 5), UNKNOWN);
        due("no thing -1", x.below(0, -1, 0), UNKNOWN);
        due("unknown before not", x.below(0, 7, 7), UNKNOWN);
        x.rows(2, 2, 0);
        x.net(0);
        due("rows are no order", x.below(1, 0, 1), UNKNOWN);
        due("a net is no order", x.below(2, 0, 1), UNKNOWN);
        due("no such game", x.below(3, 0, 1), UNKNOWN);
        BittenBoards y = Made.order(2, 1);
        due("two apart", y.worth(0), 0);
        y.below(0, 1, 0);
        due("worth changes with what is below", y.worth(0), 2);
    }

    private void promise10Post() {
        BittenBoards x = Made.net(0, 0);
        for (int k = 0; k < 6; k++) {
            due("post " + k, x.post(0), k);
        }
        due("a seventh", x.post(0), FULL);
        BittenBoards y = Made.net(2, 0);
        y.road(0, 0, 1);
        y.play(0, 1);
        due("post 0 is left", y.told(0, 5), 1);
        due("a third", y.post(0), 2);
        due("all are there", y.told(0, 5), 7 + 64);
        due("nothing is noted", y.told(0, 4), 0);
        y.rows(1, 1, 0);
        y.order(0);
        due("rows have no post", y.post(1), UNKNOWN);
        due("an order has no post", y.post(2), UNKNOWN);
        due("no such game", y.post(3), UNKNOWN);
    }

    private void promise11Road() {
        BittenBoards x = Made.net(3, 0);
        for (int k = 0; k < 8; k++) {
            due("road " + k, x.road(0, k % 2, 2), k);
        }
        x.play(0, 2);
        due("posts 0 and 1 are left", x.told(0, 5), 3);
        due("road 8", x.road(0, 1, 0), 8);
        due("all are there", x.told(0, 5), 7 + 64 * 511);
        due("nothing is noted", x.told(0, 4), 0);
        due("a tenth", x.road(0, 0, 1), FULL);
        due("not before full", x.road(0, 1, 1), NOT);
        due("unknown before not", x.road(0, 3, 3), UNKNOWN);
        due("unknown before full", x.road(0, 0, 3), UNKNOWN);
        due("no post -1", x.road(0, -1, 0), UNKNOWN);
        x.rows(1, 1, 0);
        x.divisors(6, 0);
        due("rows have no road", x.road(1, 0, 1), UNKNOWN);
        due("an order has no road", x.road(2, 0, 1), UNKNOWN);
        due("no such game", x.road(3, 0, 1), UNKNOWN);
    }

    private void promise12Rule() {
        BittenBoards x = Made.rows(1, 1, 0);
        due("it was 0", x.rule(0, 1), 0);
        due("it is 1", x.told(0, 1), 1);
        due("by rule 1 who bites the last wins", x.won(0), 1);
        due("it was 1", x.rule(0, 0), 1);
        due("by rule 0 who bites the last loses", x.won(0), 0);
        x.play(0, 0);
        due("it was 0 after a bite", x.rule(0, 1), 0);
        due("the play stays", x.told(0, 4), 1);
        due("rule -1", x.rule(0, -1), OUTSIDE);
        due("rule 2", x.rule(0, 2), OUTSIDE);
        due("no such game", x.rule(1, 0), UNKNOWN);
        due("unknown before outside", x.rule(-1, 2), UNKNOWN);
    }

    private void promise13Told() {
        BittenBoards x = Made.net(3, 1);
        x.road(0, 0, 1);
        x.road(0, 1, 2);
        x.road(0, 1, 2);
        x.play(0, 1);
        due("kind", x.told(0, 0), 2);
        due("rule", x.told(0, 1), 1);
        due("posts 0 and 2", x.told(0, 2), 2);
        due("bites", x.told(0, 3), 2);
        due("noted", x.told(0, 4), 1);
        due("state", x.told(0, 5), 5);
        x.back(0);
        x.play(0, 4);
        due("without road 1", x.told(0, 5), 7 + 64 * 5);
        due("what is left", x.told(0, 2), 5);
        x.rows(2, 3, 0);
        due("squares", x.told(1, 2), 6);
        due("bites at squares", x.told(1, 3), 6);
        due("rank", x.told(1, 5), 36 + 28);
        x.divisors(6, 0);
        x.play(2, 1);
        due("things 0 and 2", x.told(2, 5), 5);
        due("two things", x.told(2, 2), 2);
        due("what -1", x.told(0, -1), OUTSIDE);
        due("what 6", x.told(0, 6), OUTSIDE);
        due("no such game", x.told(3, 0), UNKNOWN);
        due("unknown before outside", x.told(-1, 6), UNKNOWN);
    }

    private void promise14IsBelow() {
        BittenBoards x = Made.order(3, 0);
        x.below(0, 2, 0);
        due("2 below 0", x.isBelow(0, 2, 0), 1);
        due("0 not below 2", x.isBelow(0, 0, 2), 0);
        due("1 not below 0", x.isBelow(0, 1, 0), 0);
        due("none below itself", x.isBelow(0, 2, 2), 0);
        x.play(0, 2);
        due("also of those that went", x.isBelow(0, 2, 0), 1);
        due("no thing 3", x.isBelow(0, 0, 3), UNKNOWN);
        due("no thing -1", x.isBelow(0, -1, 0), UNKNOWN);
        due("no thing 40", x.isBelow(0, 2, 40), UNKNOWN);
        x.rows(2, 2, 0);
        x.net(0);
        x.post(2);
        x.post(2);
        due("rows are no order", x.isBelow(1, 0, 1), UNKNOWN);
        due("a net is no order", x.isBelow(2, 0, 1), UNKNOWN);
        due("no such game", x.isBelow(3, 0, 1), UNKNOWN);
    }

    private void promise15Bite() {
        BittenBoards x = Made.rows(2, 3, 0);
        x.row(0, 1, 2);
        int[][] squares = {{0, 0}, {0, 1}, {0, 2}, {1, 0}, {1, 1}};
        for (int i = 0; i < squares.length; i++) {
            due("row of bite " + i, x.bite(0, i, 0), squares[i][0]);
            due("column of bite " + i, x.bite(0, i, 1), squares[i][1]);
            due("3 and 2 are lost", x.bite(0, i, 2), 0);
        }
        x.row(0, 0, 3);
        x.row(0, 1, 3);
        due("the last square of 3 and 3 wins", x.bite(0, 5, 2), 1);
        due("the first one does not", x.bite(0, 0, 2), 0);
        due("no bite 6", x.bite(0, 6, 0), NONE);
        due("no bite -1", x.bite(0, -1, 2), NONE);
        x.divisors(12, 1);
        due("thing 1", x.bite(1, 1, 0), 1);
        due("2 4 6 12 go by it", x.bite(1, 1, 1), 4);
        due("by rule 1 all of it wins", x.bite(1, 0, 2), 1);
        x.play(1, 3);
        due("1 2 3 6 are left", x.bite(1, 3, 0), 4);
        due("2 and 6 go by thing 1", x.bite(1, 1, 1), 2);
        x.net(0);
        for (int k = 0; k < 3; k++) {
            x.post(2);
        }
        x.road(2, 0, 1);
        x.road(2, 1, 2);
        due("post 1", x.bite(2, 1, 0), 1);
        due("it and two roads", x.bite(2, 1, 1), 3);
        due("road 1", x.bite(2, 4, 0), 11);
        due("it alone", x.bite(2, 4, 1), 1);
        x.play(2, 0);
        due("the first post that is left", x.bite(2, 0, 0), 1);
        due("it and one road", x.bite(2, 0, 1), 2);
        due("road 1 behind two posts", x.bite(2, 2, 0), 11);
        due("no bite 3", x.bite(2, 3, 0), NONE);
        due("what -1", x.bite(0, 0, -1), OUTSIDE);
        due("what 3", x.bite(0, 0, 3), OUTSIDE);
        due("no such game", x.bite(3, 0, 0), UNKNOWN);
        due("unknown before outside", x.bite(-1, 0, 3), UNKNOWN);
        due("outside before none", x.bite(0, -1, 3), OUTSIDE);
    }

    private void promise16Won() {
        BittenBoards x = Made.rows(1, 1, 0);
        due("the poisoned square", x.won(0), 0);
        x.play(0, 0);
        due("the end by rule 0", x.won(0), 1);
        x.rule(0, 1);
        due("the end by rule 1", x.won(0), 0);
        for (int h = 1; h <= 7; h++) {
            for (int w = 1; w <= 7; w++) {
                due("rows " + h + " " + w, Made.rows(h, w, 0).won(0), h * w == 1 ? 0 : 1);
                due("rows by rule 1", Made.rows(h, w, 1).won(0), 1);
            }
        }
        due("things apart, odd", Made.order(11, 1).won(0), 1);
        due("things apart, even", Made.order(12, 1).won(0), 0);
        due("things apart, even, rule 0", Made.order(12, 0).won(0), 1);
        due("no such game", x.won(1), UNKNOWN);
        due("no game -1", x.won(-1), UNKNOWN);
    }

    private void promise17Worth() {
        for (int n = 1; n <= 7; n++) {
            due("one row is a heap", Made.rows(1, n, 0).worth(0), n);
            due("one column is a heap", Made.rows(n, 1, 1).worth(0), n);
        }
        BittenBoards x = Made.rows(2, 2, 0);
        x.row(0, 1, 1);
        due("a corner of three leads to 0 and 2 alone", x.worth(0), 1);
        due("a chain of twelve", Made.chain(12, 0).worth(0), 12);
        due("no such game", x.worth(1), UNKNOWN);
        BittenBoards y = Made.net(3, 0);
        y.road(0, 0, 1);
        due("a road and a post", y.worth(0), 3);
        y.road(0, 1, 2);
        due("two roads in a row", y.worth(0), 1);
        y.road(0, 2, 0);
        due("a ring of three leads to 1 and 2 alone", y.worth(0), 0);
        y.rule(0, 1);
        due("whatever the rule is", y.worth(0), 0);
    }

    private void promise18Length() {
        BittenBoards x = Made.rows(1, 7, 0);
        due("all but one, and the last", x.length(0), 2);
        x.rule(0, 1);
        due("all at once", x.length(0), 1);
        due("things apart", Made.order(12, 0).length(0), 12);
        BittenBoards y = Made.rows(2, 2, 0);
        due("2 x 2", y.length(0), 4);
        y.row(0, 0, 0);
        due("the end", y.length(0), 0);
        due("7 x 7", Made.rows(7, 7, 0).length(0), 14);
        due("no such game", y.length(1), UNKNOWN);
    }

    private void promise19Winning() {
        due("one row by rule 0", Made.rows(1, 5, 0).winning(0), 1);
        due("nothing but the poisoned square", Made.rows(1, 1, 0).winning(0), 0);
        due("all wins by odd things", Made.order(5, 1).winning(0), 5);
        due("none by even things", Made.order(4, 1).winning(0), 0);
        BittenBoards x = Made.order(0, 0);
        due("none at the end", x.winning(0), 0);
        due("though it is won", x.won(0), 1);
        due("no such game", x.winning(1), UNKNOWN);
    }

    private void promise20Boards() {
        BittenBoards x = new BittenBoards();
        due("the empty one", x.boards(0, 7, 0), 1);
        due("the empty one is won", x.boards(0, 7, 1), 0);
        due("its worth", x.boards(0, 7, 2), 0);
        due("nothing in the first row", x.boards(7, 0, 0), 1);
        due("one row", x.boards(1, 7, 0), 8);
        due("the poisoned square", x.boards(1, 7, 1), 1);
        due("the greatest heap", x.boards(1, 7, 2), 7);
        due("three rows of two", x.boards(3, 2, 0), 10);
        due("two rows of three", x.boards(2, 3, 0), 10);
        due("lost ones of two rows: 1; 2 1; 3 2", x.boards(2, 3, 1), 3);
        due("all", x.boards(7, 7, 0), 3432);
        due("all lost", x.boards(7, 7, 1), 129);
        due("h -1", x.boards(-1, 0, 0), OUTSIDE);
        due("h 8", x.boards(8, 0, 0), OUTSIDE);
        due("w -1", x.boards(0, -1, 0), OUTSIDE);
        due("w 8", x.boards(0, 8, 0), OUTSIDE);
        due("what -1", x.boards(0, 0, -1), OUTSIDE);
        due("what 3", x.boards(0, 0, 3), OUTSIDE);
    }

    private void promise21Ranked() {
        BittenBoards x = new BittenBoards();
        int[][] some = {
            {0, 0, 0, 0, 0, 0, 0, 0}, {1, 1, 0, 0, 0, 0, 0, 0}, {7, 1, 1, 1, 1, 1, 1, 1},
            {8, 2, 0, 0, 0, 0, 0, 0}, {260, 4, 4, 4, 0, 0, 0, 0}, {3431, 7, 7, 7, 7, 7, 7, 7},
            {3430, 7, 7, 7, 7, 7, 7, 6}, {1716, 7, 0, 0, 0, 0, 0, 0}};
        for (int[] board : some) {
            for (int r = 0; r < 7; r++) {
                due("row " + r + " of rank " + board[0], x.ranked(board[0], r), board[r + 1]);
            }
        }
        due("rank -1", x.ranked(-1, 0), OUTSIDE);
        due("rank 3432", x.ranked(3432, 0), OUTSIDE);
        due("row -1", x.ranked(0, -1), OUTSIDE);
        due("row 7", x.ranked(0, 7), OUTSIDE);
    }

    private void promise22Play() {
        BittenBoards x = Made.rows(2, 3, 0);
        due("row 1 from square 1 on", x.play(0, 4), 36 + 1);
        due("row 0 from square 2 on", x.play(0, 2), 8 + 1);
        due("all from square 0 on", x.play(0, 0), 0);
        due("no bite is left", x.play(0, 0), NOT);
        due("three are noted", x.told(0, 4), 3);
        x.divisors(6, 0);
        due("3 and 6 go", x.play(1, 2), 3);
        due("no bite 2", x.play(1, 2), NOT);
        due("no bite -1", x.play(1, -1), NOT);
        due("one is noted", x.told(1, 4), 1);
        x.net(0);
        x.post(2);
        x.post(2);
        x.road(2, 0, 1);
        due("a road goes alone", x.play(2, 2), 3);
        x.back(2);
        due("a post takes its road", x.play(2, 0), 2);
        due("no such game", x.play(3, 0), UNKNOWN);
        due("unknown before not", x.play(-1, -1), UNKNOWN);
    }

    private void promise23Answer() {
        BittenBoards x = Made.rows(3, 3, 0);
        due("the winning bite", x.answer(0), 4);
        due("one is noted", x.told(0, 4), 1);
        due("it is noted", x.noted(0, 0), 4);
        due("the answer of the loser makes it long", x.answer(0), 2);
        while (x.told(0, 3) > 0) {
            x.answer(0);
        }
        due("as many as the length told", x.told(0, 4), 6);
        due("it has ended", x.answer(0), NOT);
        BittenBoards y = Made.order(4, 1);
        due("the first of equals", y.answer(0), 0);
        due("the first that wins", y.answer(0), 0);
        due("no such game", y.answer(1), UNKNOWN);
        due("ended at once", Made.order(0, 0).answer(0), NOT);
    }

    private void promise24Back() {
        BittenBoards x = Made.rows(2, 2, 0);
        x.play(0, 3);
        x.play(0, 1);
        due("one is left", x.back(0), 1);
        due("as it was before", x.told(0, 5), 8 + 1);
        due("none is left", x.back(0), 0);
        due("as it was at first", x.told(0, 2), 4);
        due("none is noted", x.back(0), NOT);
        x.play(0, 0);
        x.rule(0, 1);
        due("also after another rule", x.back(0), 0);
        due("which stays", x.told(0, 1), 1);
        x.play(0, 0);
        x.row(0, 0, 3);
        due("a row empties the play", x.back(0), NOT);
        due("no such game", x.back(1), UNKNOWN);
    }

    private void promise25Noted() {
        BittenBoards x = Made.rows(3, 3, 0);
        x.play(0, 8);
        x.play(0, 5);
        due("the first", x.noted(0, 0), 8);
        due("the second", x.noted(0, 1), 5);
        due("no third", x.noted(0, 2), NONE);
        due("none -1", x.noted(0, -1), NONE);
        due("none 100", x.noted(0, 100), NONE);
        x.back(0);
        due("what was taken back is gone", x.noted(0, 1), NONE);
        x.answer(0);
        due("an answer is noted", x.noted(0, 1), 4);
        due("no such game", x.noted(1, 0), UNKNOWN);
        due("no game -1", x.noted(-1, -1), UNKNOWN);
    }

    private void promise26Sum() {
        BittenBoards x = Made.rows(1, 3, 0);
        x.rows(1, 5, 1);
        x.rows(6, 1, 0);
        due("3", x.sum(1), 3);
        due("5", x.sum(2), 5);
        due("3 and 5", x.sum(3), 6);
        due("3 and 6", x.sum(5), 5);
        due("3, 5 and 6", x.sum(7), 0);
        x.play(0, 0);
        due("5 and 6", x.sum(7), 3);
        due("none", x.sum(0), OUTSIDE);
        due("game 3", x.sum(8), OUTSIDE);
        due("game 3, too", x.sum(9), OUTSIDE);
        due("-1", x.sum(-1), OUTSIDE);
        due("64", x.sum(64), OUTSIDE);
        due("65", x.sum(65), OUTSIDE);
        due("all six", Made.sixOrders().sum(63), 0);
        due("a seventh", Made.sixOrders().sum(64), OUTSIDE);
    }

    private void promise27InSum() {
        BittenBoards x = Made.rows(1, 3, 0);
        x.rows(1, 5, 0);
        x.rows(1, 7, 0);
        due("no game wins in 3 and 3", lostSum(), NONE);
        due("5 becomes 3: the game", x.inSum(3, 0), 1);
        due("5 becomes 3: the bite", x.inSum(3, 1), 3);
        due("3, 5 and 7: 3 becomes 2: the game", x.inSum(7, 0), 0);
        due("3, 5 and 7: 3 becomes 2: the bite", x.inSum(7, 1), 2);
        due("in one game all goes", x.inSum(4, 1), 0);
        due("the game of it", x.inSum(4, 0), 2);
        due("the set 0", x.inSum(0, 0), OUTSIDE);
        due("game 3", x.inSum(8, 0), OUTSIDE);
        due("what -1", x.inSum(7, -1), OUTSIDE);
        due("what 2", x.inSum(7, 2), OUTSIDE);
        due("nothing to bite", Made.sixOrders().inSum(63, 0), NONE);
    }

    private static int lostSum() {
        BittenBoards x = Made.rows(1, 3, 0);
        x.rows(3, 1, 1);
        return x.inSum(3, 0);
    }

    private void refusalsChangeNothing() {
        BittenBoards x = Made.rows(3, 3, 0);
        x.divisors(2048, 0);
        x.net(0);
        for (int k = 0; k < 6; k++) {
            x.post(2);
        }
        for (int k = 0; k < 9; k++) {
            x.road(2, 0, 1);
        }
        for (int g = 0; g < 3; g++) {
            x.play(g, 5);
        }
        int[] states = {x.told(0, 5), x.told(1, 5), x.told(2, 5)};
        x.row(0, 5, 1);
        x.row(0, 0, 8);
        x.thing(1);
        x.below(1, 1, 0);
        x.below(1, 1, 1);
        x.below(1, 1, 12);
        x.post(2);
        x.road(2, 0, 1);
        x.road(2, 1, 1);
        x.road(2, 1, 6);
        for (int g = 0; g < 3; g++) {
            x.rule(g, 2);
            x.play(g, 60);
            due("state of " + g, x.told(g, 5), states[g]);
            due("noted of " + g, x.told(g, 4), 1);
            due("rule of " + g, x.told(g, 1), 0);
        }
    }

    /** No argument whatever makes the machine throw. */
    private void anyArguments() {
        int[] odd = {LEAST, LEAST + 1, -1000, -1, 0, 1, 5, 6, 7, 31, 32, 63, 64, 4096, GREATEST};
        BittenBoards x = Made.rows(3, 3, 0);
        x.divisors(12, 1);
        x.net(1);
        x.post(2);
        x.post(2);
        x.road(2, 0, 1);
        for (int a : odd) {
            for (int b : odd) {
                for (int c : odd) {
                    x.row(a, b, c);
                    x.below(a, b, c);
                    x.road(a, b, c);
                    x.isBelow(a, b, c);
                    x.bite(a, b, c);
                    x.boards(a, b, c);
                    x.rows(a, b, c);
                }
                x.divisors(a, b);
                x.rule(a, b);
                x.told(a, b);
                x.ranked(a, b);
                x.play(a, b);
                x.noted(a, b);
                x.inSum(a, b);
            }
            x.thing(a);
            x.post(a);
            x.won(a);
            x.worth(a);
            x.length(a);
            x.winning(a);
            x.answer(a);
            x.back(a);
            x.sum(a);
            x.order(a);
            x.net(a);
        }
        checks.holds("calls with any arguments came back", true);
    }
}
