/**
 * All that the calls can show of an object, as a text, so that two of them can be compared. It uses
 * the object up: plays are taken back, and at last all games are cleared. With the games of
 * Made.six() it is some 250 calls, so that there is room below the document's 512 for others.
 */
final class Snapshot {
    private static final int MOST_GAMES = 6;

    private Snapshot() {
    }

    static String of(BittenBoards x) {
        StringBuilder text = new StringBuilder();
        for (int set = 1; set <= 63; set = 2 * set + 1) {
            text.append(x.sum(set)).append(',').append(x.inSum(set, 0)).append(',');
            text.append(x.inSum(set, 1)).append(' ');
        }
        for (int g = 0; g < MOST_GAMES; g++) {
            text.append("\n").append(ofGame(x, g));
        }
        text.append("\nnext ").append(x.net(1)).append(", gone ").append(x.clear());
        return text.toString();
    }

    static String ofGame(BittenBoards x, int g) {
        if (x.told(g, 0) < 0) {
            return "no game";
        }
        StringBuilder text = new StringBuilder("told");
        for (int what = 0; what <= 5; what++) {
            text.append(' ').append(x.told(g, what));
        }
        text.append(" solved ").append(x.won(g)).append(' ').append(x.worth(g));
        text.append(' ').append(x.length(g)).append(' ').append(x.winning(g));
        text.append(" noted");
        int noted = x.told(g, 4);
        for (int i = 0; i <= noted; i++) {
            text.append(' ').append(x.noted(g, i));
        }
        addStatesBefore(text, x, g);
        if (x.told(g, 0) != 0) {
            addBites(text, x, g);
        }
        return text.toString();
    }

    private static void addStatesBefore(StringBuilder text, BittenBoards x, int g) {
        text.append(" before");
        while (x.back(g) >= 0) {
            text.append(' ').append(x.told(g, 5));
        }
    }

    /** What each bite leaves tells which things are below which, and what roads are at a post. */
    private static void addBites(StringBuilder text, BittenBoards x, int g) {
        text.append(" bites");
        int bites = x.told(g, 3);
        for (int i = 0; i < bites; i++) {
            text.append(' ').append(x.play(g, i));
            x.back(g);
        }
    }
}
