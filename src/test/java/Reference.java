import java.util.ArrayList;
import java.util.HashMap;
import java.util.HashSet;
import java.util.List;
import java.util.Map;
import java.util.Set;

/**
 * The document told once more, as plainly as can be and with nothing of the program in it: states
 * are lists, bites are looked for in the terms' own words, and each question is answered by
 * recursion. It has no limit of plays, as none can be reached.
 */
final class Reference {
    static final int NONE = -1, UNKNOWN = -1001, OUTSIDE = -1002, NOT = -1003, FULL = -1004;
    private static final int ROAD = 100;
    private static final List<List<Integer>> BOARDS = allBoards();
    private static final Map<List<Integer>, Integer> RANKS = ranksOf(BOARDS);
    private static final Game EVERY_BOARD = new Game(0, 0);

    private final List<Game> games = new ArrayList<>();

    /** One game: rows are a list of seven numbers, other states the list of the parts there. */
    private static final class Game {
        final int kind;
        int rule;
        int things;
        final Set<List<Integer>> pairs = new HashSet<>();
        final List<int[]> roads = new ArrayList<>();
        List<Integer> state = new ArrayList<>();
        final List<Integer> bites = new ArrayList<>();
        final List<List<Integer>> before = new ArrayList<>();
        final Map<List<Integer>, Integer> worths = new HashMap<>();
        final List<Map<List<Integer>, Integer>> lengths = List.of(new HashMap<>(), new HashMap<>());
        final List<Map<List<Integer>, Boolean>> wins = List.of(new HashMap<>(), new HashMap<>());

        Game(int kind, int rule) {
            this.kind = kind;
            this.rule = rule;
        }

        void restart() {
            worths.clear();
            lengths.forEach(Map::clear);
            wins.forEach(Map::clear);
            bites.clear();
            before.clear();
            state = new ArrayList<>();
            for (int k = 0; k < things; k++) {
                state.add(k);
            }
            for (int k = 0; k < roads.size(); k++) {
                state.add(ROAD + k);
            }
        }

        List<List<Integer>> after(List<Integer> from) {
            List<List<Integer>> all = new ArrayList<>();
            if (kind == 0) {
                for (int r = 0; r < 7; r++) {
                    for (int c = 0; c < from.get(r); c++) {
                        List<Integer> next = new ArrayList<>(from);
                        for (int k = r; k < 7; k++) {
                            next.set(k, Math.min(from.get(k), c));
                        }
                        all.add(next);
                    }
                }
                return all;
            }
            for (int part : from) {
                List<Integer> next = new ArrayList<>();
                for (int other : from) {
                    if (other != part && !goesWith(part, other)) {
                        next.add(other);
                    }
                }
                all.add(next);
            }
            return all;
        }

        boolean goesWith(int part, int other) {
            if (kind == 1) {
                return pairs.contains(List.of(part, other));
            }
            if (part >= ROAD || other < ROAD) {
                return false;
            }
            int[] ends = roads.get(other - ROAD);
            return ends[0] == part || ends[1] == part;
        }

        boolean won(List<Integer> s, int byRule) {
            Boolean known = wins.get(byRule).get(s);
            if (known == null) {
                List<List<Integer>> next = after(s);
                known = next.isEmpty() && byRule == 0;
                for (List<Integer> n : next) {
                    known = known || !won(n, byRule);
                }
                wins.get(byRule).put(s, known);
            }
            return known;
        }

        int worth(List<Integer> s) {
            Integer known = worths.get(s);
            if (known == null) {
                Set<Integer> seen = new HashSet<>();
                for (List<Integer> n : after(s)) {
                    seen.add(worth(n));
                }
                known = 0;
                while (seen.contains(known)) {
                    known++;
                }
                worths.put(s, known);
            }
            return known;
        }

        int length(List<Integer> s, int byRule) {
            Integer known = lengths.get(byRule).get(s);
            if (known == null) {
                int least = Integer.MAX_VALUE;
                int greatest = -1;
                for (List<Integer> n : after(s)) {
                    int length = length(n, byRule);
                    greatest = Math.max(greatest, length);
                    if (!won(n, byRule)) {
                        least = Math.min(least, length);
                    }
                }
                known = greatest < 0 ? 0 : 1 + (won(s, byRule) ? least : greatest);
                lengths.get(byRule).put(s, known);
            }
            return known;
        }

        int toldState() {
            if (kind == 0) {
                return RANKS.get(state);
            }
            int told = 0;
            for (int part : state) {
                told += part < ROAD ? 1 << part : 64 * (1 << (part - ROAD));
            }
            return told;
        }

        void doBite(int i) {
            bites.add(i);
            before.add(state);
            state = after(state).get(i);
        }
    }

    int rows(int h, int w, int rule) {
        if (h < 1 || h > 7 || w < 1 || w > 7 || rule < 0 || rule > 1) {
            return OUTSIDE;
        }
        Game game = new Game(0, rule);
        for (int r = 0; r < 7; r++) {
            game.state.add(r < h ? w : 0);
        }
        return put(game);
    }

    int empty(int kind, int rule) {
        return rule < 0 || rule > 1 ? OUTSIDE : put(new Game(kind, rule));
    }

    int divisors(int n, int rule) {
        if (n < 1 || n > 10000 || rule < 0 || rule > 1) {
            return OUTSIDE;
        }
        List<Integer> all = new ArrayList<>();
        for (int d = 1; d <= n; d++) {
            if (n % d == 0) {
                all.add(d);
            }
        }
        if (all.size() > 12) {
            return OUTSIDE;
        }
        Game game = new Game(1, rule);
        game.things = all.size();
        for (int a = 0; a < all.size(); a++) {
            for (int b = 0; b < all.size(); b++) {
                if (a != b && all.get(b) % all.get(a) == 0) {
                    game.pairs.add(List.of(a, b));
                }
            }
        }
        game.restart();
        return put(game);
    }

    private int put(Game game) {
        if (games.size() == 6) {
            return FULL;
        }
        games.add(game);
        return games.size() - 1;
    }

    int clear() {
        int had = games.size();
        games.clear();
        return had;
    }

    private boolean isThere(int g) {
        return g >= 0 && g < games.size();
    }

    private boolean isOf(int g, int kind) {
        return isThere(g) && games.get(g).kind == kind;
    }

    private boolean hasPart(int g, int a) {
        return a >= 0 && a < games.get(g).things;
    }

    int row(int g, int r, int v) {
        if (!isOf(g, 0)) {
            return UNKNOWN;
        }
        if (r < 0 || r > 6 || v < 0 || v > 7) {
            return OUTSIDE;
        }
        Game game = games.get(g);
        if (r > 0 && game.state.get(r - 1) < v) {
            return NOT;
        }
        List<Integer> next = new ArrayList<>(game.state);
        next.set(r, v);
        for (int k = r + 1; k < 7; k++) {
            next.set(k, Math.min(v, next.get(k)));
        }
        game.bites.clear();
        game.before.clear();
        game.state = next;
        return game.after(next).size();
    }

    int part(int g, int kind, int most) {
        if (!isOf(g, kind)) {
            return UNKNOWN;
        }
        Game game = games.get(g);
        if (game.things == most) {
            return FULL;
        }
        game.things++;
        game.restart();
        return game.things - 1;
    }

    int below(int g, int a, int b) {
        if (!isOf(g, 1) || !hasPart(g, a) || !hasPart(g, b)) {
            return UNKNOWN;
        }
        Game game = games.get(g);
        if (a == b || game.pairs.contains(List.of(b, a))) {
            return NOT;
        }
        game.pairs.add(List.of(a, b));
        boolean isMore = true;
        while (isMore) {
            isMore = false;
            for (List<Integer> p : new ArrayList<>(game.pairs)) {
                for (List<Integer> q : new ArrayList<>(game.pairs)) {
                    if (p.get(1).equals(q.get(0)) && game.pairs.add(List.of(p.get(0), q.get(1)))) {
                        isMore = true;
                    }
                }
            }
        }
        game.restart();
        return game.pairs.size();
    }

    int road(int g, int a, int b) {
        if (!isOf(g, 2) || !hasPart(g, a) || !hasPart(g, b)) {
            return UNKNOWN;
        }
        if (a == b) {
            return NOT;
        }
        Game game = games.get(g);
        if (game.roads.size() == 9) {
            return FULL;
        }
        game.roads.add(new int[] {a, b});
        game.restart();
        return game.roads.size() - 1;
    }

    int rule(int g, int v) {
        if (!isThere(g)) {
            return UNKNOWN;
        }
        if (v < 0 || v > 1) {
            return OUTSIDE;
        }
        int old = games.get(g).rule;
        games.get(g).rule = v;
        return old;
    }

    int told(int g, int what) {
        if (!isThere(g)) {
            return UNKNOWN;
        }
        Game game = games.get(g);
        switch (what) {
            case 0: return game.kind;
            case 1: return game.rule;
            case 2: return game.kind == 0 ? game.state.stream().mapToInt(v -> v).sum() : game.state.size();
            case 3: return game.after(game.state).size();
            case 4: return game.bites.size();
            case 5: return game.toldState();
            default: return OUTSIDE;
        }
    }

    int isBelow(int g, int a, int b) {
        if (!isOf(g, 1) || !hasPart(g, a) || !hasPart(g, b)) {
            return UNKNOWN;
        }
        return games.get(g).pairs.contains(List.of(a, b)) ? 1 : 0;
    }

    int bite(int g, int i, int what) {
        if (!isThere(g)) {
            return UNKNOWN;
        }
        if (what < 0 || what > 2) {
            return OUTSIDE;
        }
        Game game = games.get(g);
        List<List<Integer>> next = game.after(game.state);
        if (i < 0 || i >= next.size()) {
            return NONE;
        }
        if (what == 2) {
            return game.won(next.get(i), game.rule) ? 0 : 1;
        }
        if (game.kind != 0) {
            int part = game.state.get(i);
            int place = part < ROAD ? part : 10 + part - ROAD;
            return what == 0 ? place : game.state.size() - next.get(i).size();
        }
        List<int[]> squares = new ArrayList<>();
        for (int r = 0; r < 7; r++) {
            for (int c = 0; c < game.state.get(r); c++) {
                squares.add(new int[] {r, c});
            }
        }
        return squares.get(i)[what];
    }

    int won(int g) {
        if (!isThere(g)) {
            return UNKNOWN;
        }
        Game game = games.get(g);
        return game.won(game.state, game.rule) ? 1 : 0;
    }

    int worth(int g) {
        return isThere(g) ? games.get(g).worth(games.get(g).state) : UNKNOWN;
    }

    int length(int g) {
        return isThere(g) ? games.get(g).length(games.get(g).state, games.get(g).rule) : UNKNOWN;
    }

    int winning(int g) {
        if (!isThere(g)) {
            return UNKNOWN;
        }
        Game game = games.get(g);
        int found = 0;
        for (List<Integer> n : game.after(game.state)) {
            found += game.won(n, game.rule) ? 0 : 1;
        }
        return found;
    }

    int boards(int h, int w, int what) {
        if (h < 0 || h > 7 || w < 0 || w > 7 || what < 0 || what > 2) {
            return OUTSIDE;
        }
        int many = 0;
        int lost = 0;
        int greatest = 0;
        for (List<Integer> board : BOARDS) {
            boolean isLow = h == 7 || board.get(h) == 0;
            if (board.get(0) <= w && isLow) {
                many++;
                lost += EVERY_BOARD.won(board, 0) ? 0 : 1;
                greatest = Math.max(greatest, EVERY_BOARD.worth(board));
            }
        }
        return what == 0 ? many : what == 1 ? lost : greatest;
    }

    int ranked(int rank, int r) {
        if (rank < 0 || rank >= BOARDS.size() || r < 0 || r > 6) {
            return OUTSIDE;
        }
        return BOARDS.get(rank).get(r);
    }

    int play(int g, int i) {
        if (!isThere(g)) {
            return UNKNOWN;
        }
        Game game = games.get(g);
        if (i < 0 || i >= game.after(game.state).size()) {
            return NOT;
        }
        game.doBite(i);
        return game.toldState();
    }

    int answer(int g) {
        if (!isThere(g)) {
            return UNKNOWN;
        }
        Game game = games.get(g);
        List<List<Integer>> next = game.after(game.state);
        if (next.isEmpty()) {
            return NOT;
        }
        int greatest = 0;
        for (List<Integer> n : next) {
            greatest = Math.max(greatest, game.length(n, game.rule));
        }
        boolean canWin = winning(g) > 0;
        int i = 0;
        while (canWin ? game.won(next.get(i), game.rule) : game.length(next.get(i), game.rule) < greatest) {
            i++;
        }
        game.doBite(i);
        return i;
    }

    int back(int g) {
        if (!isThere(g)) {
            return UNKNOWN;
        }
        Game game = games.get(g);
        if (game.bites.isEmpty()) {
            return NOT;
        }
        game.state = game.before.remove(game.before.size() - 1);
        game.bites.remove(game.bites.size() - 1);
        return game.bites.size();
    }

    int noted(int g, int i) {
        if (!isThere(g)) {
            return UNKNOWN;
        }
        List<Integer> bites = games.get(g).bites;
        return i >= 0 && i < bites.size() ? bites.get(i) : NONE;
    }

    private List<Integer> inSet(int set) {
        List<Integer> members = new ArrayList<>();
        for (int g = 0; g < 31; g++) {
            if ((set & 1 << g) != 0) {
                members.add(g);
            }
        }
        return members;
    }

    private boolean isSet(int set) {
        return set > 0 && inSet(set).stream().allMatch(this::isThere);
    }

    int sum(int set) {
        if (!isSet(set)) {
            return OUTSIDE;
        }
        int all = 0;
        for (int g : inSet(set)) {
            all ^= worth(g);
        }
        return all;
    }

    int inSum(int set, int what) {
        if (!isSet(set) || what < 0 || what > 1) {
            return OUTSIDE;
        }
        for (int g : inSet(set)) {
            Game game = games.get(g);
            List<Integer> kept = game.state;
            List<List<Integer>> next = game.after(kept);
            for (int i = 0; i < next.size(); i++) {
                game.state = next.get(i);
                int left = sum(set);
                game.state = kept;
                if (left == 0) {
                    return what == 0 ? g : i;
                }
            }
        }
        return NONE;
    }

    private static List<List<Integer>> allBoards() {
        List<List<Integer>> all = new ArrayList<>();
        addBoards(new ArrayList<>(), 7, all);
        return all;
    }

    private static void addBoards(List<Integer> begun, int most, List<List<Integer>> all) {
        if (begun.size() == 7) {
            all.add(List.copyOf(begun));
            return;
        }
        for (int v = 0; v <= most; v++) {
            begun.add(v);
            addBoards(begun, v, all);
            begun.remove(begun.size() - 1);
        }
    }

    /** The rank of a board whose seven rows fall. */
    static int rankOf(int... rows) {
        List<Integer> board = new ArrayList<>();
        for (int v : rows) {
            board.add(v);
        }
        return RANKS.get(board);
    }

    private static Map<List<Integer>, Integer> ranksOf(List<List<Integer>> boards) {
        Map<List<Integer>, Integer> ranks = new HashMap<>();
        for (List<Integer> board : boards) {
            ranks.put(board, ranks.size());
        }
        return ranks;
    }
}
