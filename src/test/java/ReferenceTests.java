/** Long runs of calls, each answered by the program and by the reference: both must agree. */
final class ReferenceTests {
    private static final int RUNS = 240;
    private static final int CALLS = 512;
    /** The calls by their numbers, those that make a play or a game first. */
    private static final String[] NAMES = {
        "rows", "order", "divisors", "net", "row", "thing", "below", "post", "road", "rule",
        "play", "answer", "back", "told", "isBelow", "bite", "won", "worth", "length", "winning",
        "boards", "ranked", "noted", "sum", "inSum", "clear"};
    /** How often each of them is drawn. */
    private static final int[] SHARES = {
        3, 3, 2, 3, 4, 12, 14, 7, 12, 6,
        14, 9, 10, 14, 5, 14, 5, 6, 6, 5,
        1, 2, 5, 5, 6, 1};

    private final Checks checks;
    private long drawn;
    private BittenBoards program;
    private Reference reference;
    private int a;
    private int b;
    private int c;

    private ReferenceTests(Checks checks) {
        this.checks = checks;
    }

    static void run(Checks checks) {
        ReferenceTests tests = new ReferenceTests(checks);
        for (int k = 0; k < RUNS; k++) {
            tests.runOnce(k);
        }
        tests.allBoards();
        tests.allDivisors();
        tests.playsToTheEnd();
    }

    private void runOnce(int number) {
        drawn = 7919L * number + 17;
        program = new BittenBoards();
        reference = new Reference();
        // Every third run has no clear(), so that its games grow large.
        boolean keeps = number % 3 == 0;
        for (int k = 0; k < CALLS; k++) {
            int call = drawCall();
            if (keeps && NAMES[call].equals("clear")) {
                continue;
            }
            drawArguments(call);
            String text = "run " + number + ", call " + k + ": " + NAMES[call]
                    + "(" + a + ", " + b + ", " + c + ")";
            checks.due(text, ofProgram(call), ofReference(call));
        }
    }

    private int draw(int least, int greatest) {
        drawn = drawn * 6364136223846793005L + 1442695040888963407L;
        return least + (int) ((drawn >>> 33) % (greatest - least + 1));
    }

    private int drawCall() {
        int all = 0;
        for (int share : SHARES) {
            all += share;
        }
        int left = draw(0, all - 1);
        int call = 0;
        while (left >= SHARES[call]) {
            left -= SHARES[call];
            call++;
        }
        return call;
    }

    /** Mostly what can be done, now and then what can't. */
    private void drawArguments(int call) {
        a = draw(0, 19) == 0 ? draw(-2, 8) : draw(0, 5);
        b = draw(-1, 9);
        c = draw(0, 2);
        switch (NAMES[call]) {
            case "rows": a = draw(0, 8); b = draw(0, 8); c = draw(0, 1); break;
            case "order": case "net": a = draw(0, 12) == 0 ? draw(-1, 2) : draw(0, 1); break;
            case "divisors": a = draw(0, 2) == 0 ? draw(-1, 10001) : draw(1, 100); b = draw(0, 1); break;
            case "row": b = draw(-1, 7); c = draw(-1, 8); break;
            case "below": b = draw(-1, 12); c = draw(-1, 12); break;
            case "isBelow": b = draw(-1, 12); c = draw(-1, 12); break;
            case "road": b = draw(-1, 6); c = draw(-1, 6); break;
            case "rule": b = draw(0, 12) == 0 ? draw(-1, 2) : draw(0, 1); break;
            case "play": b = draw(0, 2) == 0 ? draw(-1, 49) : draw(0, 8); break;
            case "bite": b = draw(0, 2) == 0 ? draw(-1, 49) : draw(0, 8); c = draw(0, 9) == 0 ? draw(-1, 3) : c; break;
            case "told": b = draw(-1, 6); break;
            case "boards": a = draw(-1, 8); b = draw(-1, 8); c = draw(-1, 3); break;
            case "ranked": a = draw(-1, 3432); b = draw(-1, 7); break;
            case "sum": case "inSum": a = draw(-1, 64); b = draw(0, 9) == 0 ? draw(-1, 2) : draw(0, 1); break;
            default: break;
        }
    }

    private int ofProgram(int call) {
        BittenBoards x = program;
        switch (NAMES[call]) {
            case "rows": return x.rows(a, b, c);
            case "order": return x.order(a);
            case "divisors": return x.divisors(a, b);
            case "net": return x.net(a);
            case "row": return x.row(a, b, c);
            case "thing": return x.thing(a);
            case "below": return x.below(a, b, c);
            case "post": return x.post(a);
            case "road": return x.road(a, b, c);
            case "rule": return x.rule(a, b);
            case "play": return x.play(a, b);
            case "answer": return x.answer(a);
            case "back": return x.back(a);
            case "told": return x.told(a, b);
            case "isBelow": return x.isBelow(a, b, c);
            case "bite": return x.bite(a, b, c);
            case "won": return x.won(a);
            case "worth": return x.worth(a);
            case "length": return x.length(a);
            case "winning": return x.winning(a);
            case "boards": return x.boards(a, b, c);
            case "ranked": return x.ranked(a, b);
            case "noted": return x.noted(a, b);
            case "sum": return x.sum(a);
            case "inSum": return x.inSum(a, b);
            default: return x.clear();
        }
    }

    private int ofReference(int call) {
        Reference x = reference;
        switch (NAMES[call]) {
            case "rows": return x.rows(a, b, c);
            case "order": return x.empty(1, a);
            case "divisors": return x.divisors(a, b);
            case "net": return x.empty(2, a);
            case "row": return x.row(a, b, c);
            case "thing": return x.part(a, 1, 12);
            case "below": return x.below(a, b, c);
            case "post": return x.part(a, 2, 6);
            case "road": return x.road(a, b, c);
            case "rule": return x.rule(a, b);
            case "play": return x.play(a, b);
            case "answer": return x.answer(a);
            case "back": return x.back(a);
            case "told": return x.told(a, b);
            case "isBelow": return x.isBelow(a, b, c);
            case "bite": return x.bite(a, b, c);
            case "won": return x.won(a);
            case "worth": return x.worth(a);
            case "length": return x.length(a);
            case "winning": return x.winning(a);
            case "boards": return x.boards(a, b, c);
            case "ranked": return x.ranked(a, b);
            case "noted": return x.noted(a, b);
            case "sum": return x.sum(a);
            case "inSum": return x.inSum(a, b);
            default: return x.clear();
        }
    }

    private void allBoards() {
        program = new BittenBoards();
        reference = new Reference();
        for (int h = -1; h <= 8; h++) {
            for (int w = -1; w <= 8; w++) {
                for (int what = -1; what <= 3; what++) {
                    String text = "boards(" + h + ", " + w + ", " + what + ")";
                    checks.due(text, program.boards(h, w, what), reference.boards(h, w, what));
                }
            }
        }
        for (int rank = -1; rank <= 3432; rank++) {
            for (int r = -1; r <= 7; r++) {
                String text = "ranked(" + rank + ", " + r + ")";
                checks.due(text, program.ranked(rank, r), reference.ranked(rank, r));
            }
        }
    }

    private void allDivisors() {
        for (int n = 1; n <= 10000; n += n < 130 ? 1 : 89) {
            program = new BittenBoards();
            reference = new Reference();
            checks.due("divisors(" + n + ", 1)", program.divisors(n, 1), reference.divisors(n, 1));
            compareGame("divisors(" + n + ", 1)", 0);
        }
    }

    /** The house plays both sides of large games by both rules, and all is looked at on the way. */
    private void playsToTheEnd() {
        for (int rule = 0; rule <= 1; rule++) {
            for (int size = 1; size <= 7; size++) {
                program = new BittenBoards();
                reference = new Reference();
                program.rows(size, 7, rule);
                reference.rows(size, 7, rule);
                playOut("rows(" + size + ", 7, " + rule + ")");
            }
            for (int number = 0; number < 6; number++) {
                drawn = number + 1;
                program = new BittenBoards();
                reference = new Reference();
                makeNet(rule);
                playOut("net " + number + " by rule " + rule);
                program = new BittenBoards();
                reference = new Reference();
                makeOrder(rule);
                playOut("order " + number + " by rule " + rule);
            }
        }
    }

    private void makeNet(int rule) {
        program.net(rule);
        reference.empty(2, rule);
        for (int k = 0; k < 6; k++) {
            program.post(0);
            reference.part(0, 2, 6);
        }
        for (int k = 0; k < 14; k++) {
            int one = draw(0, 5);
            int other = draw(0, 5);
            checks.due("road", program.road(0, one, other), reference.road(0, one, other));
        }
    }

    private void makeOrder(int rule) {
        program.order(rule);
        reference.empty(1, rule);
        for (int k = 0; k < 12; k++) {
            program.thing(0);
            reference.part(0, 1, 12);
        }
        for (int k = 0; k < 9; k++) {
            int one = draw(0, 11);
            int other = draw(0, 11);
            checks.due("below", program.below(0, one, other), reference.below(0, one, other));
        }
    }

    private void playOut(String name) {
        compareGame(name, 0);
        for (int k = 0; k < 50 && reference.told(0, 3) > 0; k++) {
            checks.due(name + ": answer", program.answer(0), reference.answer(0));
            compareGame(name + " after " + (k + 1), 0);
        }
        checks.due(name + ": answer at the end", program.answer(0), Reference.NOT);
        while (reference.told(0, 4) > 0) {
            checks.due(name + ": back", program.back(0), reference.back(0));
            compareGame(name + " back", 0);
        }
    }

    private void compareGame(String name, int g) {
        for (int what = 0; what <= 5; what++) {
            checks.due(name + ": told " + what, program.told(g, what), reference.told(g, what));
        }
        checks.due(name + ": won", program.won(g), reference.won(g));
        checks.due(name + ": worth", program.worth(g), reference.worth(g));
        checks.due(name + ": length", program.length(g), reference.length(g));
        checks.due(name + ": winning", program.winning(g), reference.winning(g));
        for (int i = -1; i <= reference.told(g, 3) && i >= -1; i++) {
            for (int what = 0; what <= 2; what++) {
                checks.due(name + ": bite " + i, program.bite(g, i, what), reference.bite(g, i, what));
            }
        }
    }
}
