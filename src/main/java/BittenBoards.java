/**
 * Bitten boards: games of falling rows, orders and nets, in which two bite by turns until nothing
 * is left; ../shared/DOC.md says what every call answers.
 */
public final class BittenBoards {
    public static final int NONE = -1, UNKNOWN = -1001, OUTSIDE = -1002, NOT = -1003, FULL = -1004;

    private static final int ROWS = 0, ORDER = 1, NET = 2;
    private static final int MOST_GAMES = 6, MOST_NOTED = 100, MOST_DIVIDED = 10000;
    private static final int SIDE = 7, RANKS = 3432;
    private static final int MOST_THINGS = 12, MOST_POSTS = 6, MOST_ROADS = 9;
    private static final int MOST_PARTS = MOST_POSTS + MOST_ROADS;
    /** An order has fewer things than a net has parts, so that its states have room here, too. */
    private static final int SET_STATES = 1 << MOST_PARTS;
    /** Roads are told of as 10 and their number, but stand right behind the posts in a state. */
    private static final int ROAD_MARK = 10 - MOST_POSTS;
    private static final int POSTS_ALONE = (1 << MOST_POSTS) - 1;

    private final Boards boards;
    private final Game[] games = new Game[MOST_GAMES];
    private final int[] divisorRow = new int[MOST_THINGS];
    private int count;

    public BittenBoards() {
        Tally tally = new Tally();
        boards = new Boards(tally);
        for (int k = 0; k < games.length; k++) {
            games[k] = new Game(boards, tally);
        }
    }

    // ---- games

    public int rows(int h, int w, int rule) {
        if (!isWithin(h, 1, SIDE) || !isWithin(w, 1, SIDE) || !isWithin(rule, 0, 1)) {
            return OUTSIDE;
        }
        Game game = nextGame();
        if (game == null) {
            return FULL;
        }
        game.begin(ROWS, rule);
        game.putBoard(boards.rankOfBlock(h, w));
        return count++;
    }

    public int order(int rule) {
        return beginEmpty(ORDER, rule);
    }

    public int divisors(int n, int rule) {
        if (!isWithin(n, 1, MOST_DIVIDED) || !isWithin(rule, 0, 1)) {
            return OUTSIDE;
        }
        int found = listDivisors(n);
        if (found > MOST_THINGS) {
            return OUTSIDE;
        }
        Game game = nextGame();
        if (game == null) {
            return FULL;
        }
        game.begin(ORDER, rule);
        game.putMultiples(divisorRow, found);
        return count++;
    }

    public int net(int rule) {
        return beginEmpty(NET, rule);
    }

    public int clear() {
        int gone = count;
        count = 0;
        return gone;
    }

    public int row(int g, int r, int v) {
        Game game = gameOf(g, ROWS);
        if (game == null) {
            return UNKNOWN;
        }
        if (!isWithin(r, 0, SIDE - 1) || !isWithin(v, 0, SIDE)) {
            return OUTSIDE;
        }
        if (r > 0 && v > boards.rowOf(game.state, r - 1)) {
            return NOT;
        }
        game.putBoard(boards.rankWithRow(game.state, r, v));
        return game.countBites();
    }

    public int thing(int g) {
        Game game = gameOf(g, ORDER);
        if (game == null) {
            return UNKNOWN;
        }
        int number = game.countThings();
        if (number >= MOST_THINGS) {
            return FULL;
        }
        game.addPart(number);
        return number;
    }

    public int below(int g, int a, int b) {
        Game game = gameOf(g, ORDER);
        if (game == null || !game.hasThing(a) || !game.hasThing(b)) {
            return UNKNOWN;
        }
        if (a == b || game.takesAlong(b, a)) {
            return NOT;
        }
        game.putBelow(a, b);
        return game.countPairs();
    }

    public int post(int g) {
        Game game = gameOf(g, NET);
        if (game == null) {
            return UNKNOWN;
        }
        int number = game.countPosts();
        if (number >= MOST_POSTS) {
            return FULL;
        }
        game.addPart(number);
        return number;
    }

    public int road(int g, int a, int b) {
        Game game = gameOf(g, NET);
        if (game == null || !game.hasPost(a) || !game.hasPost(b)) {
            return UNKNOWN;
        }
        if (a == b) {
            return NOT;
        }
        int number = game.countRoads();
        if (number >= MOST_ROADS) {
            return FULL;
        }
        game.addRoad(MOST_POSTS + number, a, b);
        return number;
    }

    public int rule(int g, int v) {
        Game game = gameAt(g);
        if (game == null) {
            return UNKNOWN;
        }
        if (!isWithin(v, 0, 1)) {
            return OUTSIDE;
        }
        int old = game.rule;
        game.rule = v;
        return old;
    }

    public int told(int g, int what) {
        Game game = gameAt(g);
        if (game == null) {
            return UNKNOWN;
        }
        switch (what) {
            case 0:
                return game.kind;
            case 1:
                return game.rule;
            case 2:
            case 3:
                // Each square, thing, post and road that is there can be bitten, and nothing else.
                return game.countBites();
            case 4:
                return game.noted;
            case 5:
                return game.state;
            default:
                return OUTSIDE;
        }
    }

    public int isBelow(int g, int a, int b) {
        Game game = gameOf(g, ORDER);
        if (game == null || !game.hasThing(a) || !game.hasThing(b)) {
            return UNKNOWN;
        }
        return a != b && game.takesAlong(a, b) ? 1 : 0;
    }

    public int bite(int g, int i, int what) {
        Game game = gameAt(g);
        if (game == null) {
            return UNKNOWN;
        }
        if (!isWithin(what, 0, 2)) {
            return OUTSIDE;
        }
        if (!game.hasBite(i)) {
            return NONE;
        }
        if (what == 2) {
            return game.isWinning(i) ? 1 : 0;
        }
        return what == 0 ? game.placeOfBite(i) : game.sizeOfBite(i);
    }

    // ---- solved

    public int won(int g) {
        Game game = gameAt(g);
        if (game == null) {
            return UNKNOWN;
        }
        return isWon(lengthIn(game.factsOf(game.state), game.rule), game.rule) ? 1 : 0;
    }

    public int worth(int g) {
        Game game = gameAt(g);
        if (game == null) {
            return UNKNOWN;
        }
        return worthIn(game.factsOf(game.state));
    }

    public int length(int g) {
        Game game = gameAt(g);
        if (game == null) {
            return UNKNOWN;
        }
        return lengthIn(game.factsOf(game.state), game.rule);
    }

    public int winning(int g) {
        Game game = gameAt(g);
        if (game == null) {
            return UNKNOWN;
        }
        int found = 0;
        int bites = game.countBites();
        for (int i = 0; i < bites; i++) {
            if (game.isWinning(i)) {
                found++;
            }
        }
        return found;
    }

    public int boards(int h, int w, int what) {
        if (!isWithin(h, 0, SIDE) || !isWithin(w, 0, SIDE) || !isWithin(what, 0, 2)) {
            return OUTSIDE;
        }
        return what == 2 ? boards.greatestWorth(h, w) : boards.countWithin(h, w, what == 1);
    }

    public int ranked(int rank, int r) {
        if (!isWithin(rank, 0, RANKS - 1) || !isWithin(r, 0, SIDE - 1)) {
            return OUTSIDE;
        }
        return boards.rowOf(rank, r);
    }

    // ---- plays

    public int play(int g, int i) {
        Game game = gameAt(g);
        if (game == null) {
            return UNKNOWN;
        }
        if (!game.hasBite(i)) {
            return NOT;
        }
        if (game.noted >= MOST_NOTED) {
            return FULL;
        }
        game.doBite(i);
        return game.state;
    }

    public int answer(int g) {
        Game game = gameAt(g);
        if (game == null) {
            return UNKNOWN;
        }
        if (!game.hasBite(0)) {
            return NOT;
        }
        if (game.noted >= MOST_NOTED) {
            return FULL;
        }
        int i = game.findAnswer();
        game.doBite(i);
        return i;
    }

    public int back(int g) {
        Game game = gameAt(g);
        if (game == null) {
            return UNKNOWN;
        }
        if (game.noted == 0) {
            return NOT;
        }
        game.undoBite();
        return game.noted;
    }

    public int noted(int g, int i) {
        Game game = gameAt(g);
        if (game == null) {
            return UNKNOWN;
        }
        return isWithin(i, 0, game.noted - 1) ? at(game.bites, i) : NONE;
    }

    // ---- sums

    public int sum(int set) {
        return isSum(set) ? worthOfSum(set) : OUTSIDE;
    }

    public int inSum(int set, int what) {
        if (!isSum(set) || !isWithin(what, 0, 1)) {
            return OUTSIDE;
        }
        int all = worthOfSum(set);
        for (int g = 0; g < count && g < games.length; g++) {
            Game game = games[g];
            if (game == null || (set >> g & 1) == 0) {
                continue;
            }
            // The other games' worths must be met by what the bite leaves of this one.
            int i = game.findBiteTo(all ^ worthIn(game.factsOf(game.state)));
            if (i != NONE) {
                return what == 0 ? g : i;
            }
        }
        return NONE;
    }

    // ---- what the calls share

    private Game nextGame() {
        return count >= 0 && count < games.length ? games[count] : null;
    }

    private int beginEmpty(int kind, int rule) {
        if (!isWithin(rule, 0, 1)) {
            return OUTSIDE;
        }
        Game game = nextGame();
        if (game == null) {
            return FULL;
        }
        game.begin(kind, rule);
        return count++;
    }

    private Game gameAt(int g) {
        return g >= 0 && g < count && g < games.length ? games[g] : null;
    }

    private Game gameOf(int g, int kind) {
        Game game = gameAt(g);
        return game != null && game.kind == kind ? game : null;
    }

    /** How many divisors n has; the row holds the first ones, as many as there may be things. */
    private int listDivisors(int n) {
        int found = 0;
        for (int d = 1; d <= n && d <= MOST_DIVIDED; d++) {
            if (n % d == 0) {
                if (found < divisorRow.length) {
                    divisorRow[found] = d;
                }
                found++;
            }
        }
        return found;
    }

    private boolean isSum(int set) {
        return isWithin(set, 1, (1 << count) - 1);
    }

    private int worthOfSum(int set) {
        int all = 0;
        for (int g = 0; g < count && g < games.length; g++) {
            Game game = games[g];
            if (game != null && (set >> g & 1) != 0) {
                all ^= worthIn(game.factsOf(game.state));
            }
        }
        return all;
    }

    private static boolean isWithin(int value, int least, int greatest) {
        return value >= least && value <= greatest;
    }

    private static int at(int[] row, int i) {
        return row != null && i >= 0 && i < row.length ? row[i] : 0;
    }

    // The facts of a state are one number: length by rule 0, length by rule 1, worth, a byte each.

    private static int lengthIn(int facts, int rule) {
        return rule == 0 ? facts & 255 : facts >> 8 & 255;
    }

    private static int worthIn(int facts) {
        return facts >> 16 & 255;
    }

    /**
     * A length follows from one of the other side and 1, so won and lost ones are odd and even by
     * turns from the end on, whose length 0 is won by rule 0 and lost by rule 1.
     */
    private static boolean isWon(int length, int rule) {
        return (length & 1) == rule;
    }

    /** Makes the facts of a state from those of the states that its bites lead to. */
    private static final class Tally {
        private static final int ENDLESS = 255;

        private final int[] leastLost = new int[2];
        private final int[] greatest = new int[2];
        private long worths;

        void begin() {
            worths = 0;
            for (int rule = 0; rule < 2; rule++) {
                leastLost[rule] = ENDLESS;
                // So that a state without bites has length 0.
                greatest[rule] = -1;
            }
        }

        void take(int facts) {
            worths |= 1L << worthIn(facts);
            for (int rule = 0; rule < 2; rule++) {
                int length = lengthIn(facts, rule);
                greatest[rule] = Math.max(greatest[rule], length);
                if (!isWon(length, rule)) {
                    leastLost[rule] = Math.min(leastLost[rule], length);
                }
            }
        }

        int facts() {
            int facts = leastMissing() << 16;
            for (int rule = 0; rule < 2; rule++) {
                int next = leastLost[rule] < ENDLESS ? leastLost[rule] : greatest[rule];
                facts |= (next + 1) << (8 * rule);
            }
            return facts;
        }

        /** At most 49 bites lead on, so that the figures of one long hold every worth. */
        private int leastMissing() {
            int worth = 0;
            while (worth < 63 && (worths >> worth & 1) != 0) {
                worth++;
            }
            return worth;
        }
    }

    /** All boards of falling rows by their ranks. */
    private static final class Boards {
        private final Tally tally;
        /** At 8 r + v: how many ways there are to fill the rows from r on, row r with less than v. */
        private final int[] lesser = new int[8 * (SIDE + 1)];
        /** The board that was looked at last. */
        private final int[] lines = new int[SIDE];
        private final int[] facts = new int[RANKS];
        private final int[] firsts = new int[RANKS];
        private final int[] heights = new int[RANKS];
        private boolean isSolved;

        Boards(Tally tally) {
            this.tally = tally;
            for (int v = 1; v <= SIDE; v++) {
                lesser[8 * SIDE + v] = 1;
            }
            for (int r = SIDE - 1; r >= 0; r--) {
                for (int v = 1; v <= SIDE; v++) {
                    lesser[8 * r + v] = lesser[8 * r + v - 1] + lesser[8 * (r + 1) + v];
                }
            }
        }

        int rankOfBlock(int h, int w) {
            for (int r = 0; r < lines.length; r++) {
                lines[r] = r < h ? w : 0;
            }
            return rankOfLines();
        }

        int rankWithRow(int rank, int row, int v) {
            lookAt(rank);
            for (int r = 0; r < lines.length; r++) {
                if (r == row) {
                    lines[r] = v;
                } else if (r > row) {
                    lines[r] = Math.min(lines[r], v);
                }
            }
            return rankOfLines();
        }

        int rankAfter(int rank, int i) {
            int row = rowOfBite(rank, i);
            int column = columnOfBite(rank, i);
            for (int r = 0; r < lines.length; r++) {
                if (r >= row) {
                    lines[r] = Math.min(lines[r], column);
                }
            }
            return rankOfLines();
        }

        int rowOf(int rank, int r) {
            lookAt(rank);
            return at(lines, r);
        }

        int countSquares(int rank) {
            lookAt(rank);
            int squares = 0;
            for (int line : lines) {
                squares += line;
            }
            return squares;
        }

        int rowOfBite(int rank, int i) {
            lookAt(rank);
            int left = i;
            int r = 0;
            while (r < lines.length && left >= lines[r]) {
                left -= lines[r];
                r++;
            }
            return r;
        }

        int columnOfBite(int rank, int i) {
            lookAt(rank);
            int left = i;
            for (int r = 0; r < lines.length && left >= lines[r]; r++) {
                left -= lines[r];
            }
            return left;
        }

        int countWithin(int h, int w, boolean lostAlone) {
            solve();
            int found = 0;
            for (int rank = 0; rank < RANKS; rank++) {
                boolean isLost = !isWon(lengthIn(at(facts, rank), 0), 0);
                if (isInside(rank, h, w) && (isLost || !lostAlone)) {
                    found++;
                }
            }
            return found;
        }

        int greatestWorth(int h, int w) {
            solve();
            int greatest = 0;
            for (int rank = 0; rank < RANKS; rank++) {
                if (isInside(rank, h, w)) {
                    greatest = Math.max(greatest, worthIn(at(facts, rank)));
                }
            }
            return greatest;
        }

        private boolean isInside(int rank, int h, int w) {
            return at(firsts, rank) <= w && at(heights, rank) <= h;
        }

        /** A bite leads to a lesser rank, so that rising ranks find what they need. */
        void solve() {
            if (isSolved) {
                return;
            }
            for (int rank = 0; rank < RANKS; rank++) {
                lookAt(rank);
                firsts[rank] = at(lines, 0);
                heights[rank] = countFilled();
                facts[rank] = factsOfLines(rank);
            }
            isSolved = true;
        }

        /** For one column a bite a row higher differs in that row alone: its share is exchanged. */
        private int factsOfLines(int rank) {
            tally.begin();
            for (int c = 0; c < SIDE; c++) {
                int after = rank;
                for (int r = lines.length - 1; r >= 0; r--) {
                    if (lines[r] > c) {
                        after += at(lesser, 8 * r + c) - at(lesser, 8 * r + lines[r]);
                        tally.take(at(facts, after));
                    }
                }
            }
            return tally.facts();
        }

        private int countFilled() {
            int filled = 0;
            for (int line : lines) {
                if (line > 0) {
                    filled++;
                }
            }
            return filled;
        }

        private void lookAt(int rank) {
            int left = rank;
            for (int r = 0; r < lines.length; r++) {
                int v = SIDE;
                while (v > 0 && at(lesser, 8 * r + v) > left) {
                    v--;
                }
                lines[r] = v;
                left -= at(lesser, 8 * r + v);
            }
        }

        private int rankOfLines() {
            int rank = 0;
            for (int r = 0; r < lines.length; r++) {
                rank += at(lesser, 8 * r + lines[r]);
            }
            return rank;
        }
    }

    /**
     * One game and its play. The state of rows is a rank. That of an order or a net is a set of
     * parts: things, or posts (figures 0 to 5) and roads (from figure 6 on), so that both kinds are
     * bitten alike: a part goes with all that it takes along.
     */
    private static final class Game {
        private final Boards boards;
        private final Tally tally;
        private final int[] takenBy = new int[MOST_PARTS];
        private final int[] bites = new int[MOST_NOTED];
        private final int[] before = new int[MOST_NOTED];
        /** For orders and nets: made once for each place, so that no call makes a row. */
        private final int[] facts = new int[SET_STATES];
        private int kind;
        private int rule;
        private int whole;
        private int state;
        private int noted;
        private boolean isSolved;

        Game(Boards boards, Tally tally) {
            this.boards = boards;
            this.tally = tally;
        }

        void begin(int newKind, int newRule) {
            kind = newKind;
            rule = newRule;
            whole = 0;
            isSolved = false;
            restart();
        }

        void putBoard(int rank) {
            state = rank;
            noted = 0;
        }

        void putMultiples(int[] numbers, int many) {
            for (int a = 0; a < many; a++) {
                addPart(a);
            }
            for (int a = 0; a < many; a++) {
                for (int b = a + 1; b < many; b++) {
                    int divisor = at(numbers, a);
                    if (divisor > 0 && at(numbers, b) % divisor == 0) {
                        putBelow(a, b);
                    }
                }
            }
        }

        void addPart(int part) {
            if (part >= 0 && part < takenBy.length) {
                takenBy[part] = 1 << part;
                whole |= 1 << part;
                isSolved = false;
                restart();
            }
        }

        void addRoad(int part, int a, int b) {
            addPart(part);
            takeAlong(a, 1 << part);
            takeAlong(b, 1 << part);
        }

        void putBelow(int a, int b) {
            int more = at(takenBy, b);
            if (!takesAlong(a, b)) {
                for (int c = 0; c < MOST_THINGS; c++) {
                    if (hasThing(c) && takesAlong(c, a)) {
                        takeAlong(c, more);
                    }
                }
                isSolved = false;
            }
            restart();
        }

        private void takeAlong(int part, int more) {
            if (part >= 0 && part < takenBy.length) {
                takenBy[part] |= more;
            }
        }

        private void restart() {
            state = whole;
            noted = 0;
        }

        /** Whether b goes when a is bitten; a takes itself along, too. */
        boolean takesAlong(int a, int b) {
            return (at(takenBy, a) >> b & 1) != 0;
        }

        boolean hasThing(int a) {
            return a >= 0 && a < countThings();
        }

        boolean hasPost(int a) {
            return a >= 0 && a < countPosts();
        }

        int countThings() {
            return Integer.bitCount(whole);
        }

        int countPosts() {
            return Integer.bitCount(whole & POSTS_ALONE);
        }

        int countRoads() {
            return Integer.bitCount(whole & ~POSTS_ALONE);
        }

        int countPairs() {
            int pairs = 0;
            for (int a = 0; a < countThings(); a++) {
                pairs += Integer.bitCount(at(takenBy, a)) - 1;
            }
            return pairs;
        }

        int countBites() {
            return kind == ROWS ? boards.countSquares(state) : Integer.bitCount(state);
        }

        boolean hasBite(int i) {
            return i >= 0 && i < countBites();
        }

        int placeOfBite(int i) {
            if (kind == ROWS) {
                return boards.rowOfBite(state, i);
            }
            int part = partOfBite(i);
            return kind == NET && part >= MOST_POSTS ? part + ROAD_MARK : part;
        }

        int sizeOfBite(int i) {
            if (kind == ROWS) {
                return boards.columnOfBite(state, i);
            }
            return Integer.bitCount(state & at(takenBy, partOfBite(i)));
        }

        boolean isWinning(int i) {
            return !isWon(lengthIn(factsOf(stateAfter(i)), rule), rule);
        }

        int findAnswer() {
            int answer = NONE;
            int longest = -1;
            int many = countBites();
            for (int i = 0; i < many; i++) {
                int length = lengthIn(factsOf(stateAfter(i)), rule);
                if (!isWon(length, rule)) {
                    return i;
                }
                if (length > longest) {
                    longest = length;
                    answer = i;
                }
            }
            return answer;
        }

        int findBiteTo(int wanted) {
            int many = countBites();
            for (int i = 0; i < many; i++) {
                if (worthIn(factsOf(stateAfter(i))) == wanted) {
                    return i;
                }
            }
            return NONE;
        }

        void doBite(int i) {
            if (noted >= 0 && noted < bites.length && noted < before.length) {
                bites[noted] = i;
                before[noted] = state;
                noted++;
                state = stateAfter(i);
            }
        }

        void undoBite() {
            if (noted > 0) {
                noted--;
                state = at(before, noted);
            }
        }

        int factsOf(int someState) {
            if (kind == ROWS) {
                boards.solve();
                return at(boards.facts, someState);
            }
            if (!isSolved) {
                solve();
            }
            return at(facts, someState);
        }

        private int stateAfter(int i) {
            if (kind == ROWS) {
                return boards.rankAfter(state, i);
            }
            return state & ~at(takenBy, partOfBite(i));
        }

        private int partOfBite(int i) {
            int left = i;
            for (int part = 0; part < takenBy.length; part++) {
                if ((state >> part & 1) != 0) {
                    if (left == 0) {
                        return part;
                    }
                    left--;
                }
            }
            return NONE;
        }

        /** A bite leads to a lesser set, so that rising ones find what they need. */
        private void solve() {
            for (int set = 0; set <= whole && set < facts.length; set++) {
                if ((set & ~whole) == 0 && canBeLeft(set)) {
                    facts[set] = factsOfSet(set);
                }
            }
            isSolved = true;
        }

        /** Sets that hold what a bite would have taken are never reached, and spared. */
        private boolean canBeLeft(int set) {
            int gone = whole & ~set;
            for (int part = 0; part < takenBy.length; part++) {
                if ((gone >> part & 1) != 0 && (takenBy[part] & set) != 0) {
                    return false;
                }
            }
            return true;
        }

        private int factsOfSet(int set) {
            tally.begin();
            for (int part = 0; part < takenBy.length; part++) {
                if ((set >> part & 1) != 0) {
                    tally.take(at(facts, set & ~takenBy[part]));
                }
            }
            return tally.facts();
        }
    }
}
