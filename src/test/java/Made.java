/** Objects with games in them, made anew for each test. */
final class Made {
    private Made() {
    }

    static BittenBoards rows(int h, int w, int rule) {
        BittenBoards x = new BittenBoards();
        x.rows(h, w, rule);
        return x;
    }

    /** A board of any falling rows: each is put from the first one on. */
    static BittenBoards board(int rule, int... rows) {
        BittenBoards x = rows(7, 7, rule);
        for (int r = 0; r < 7; r++) {
            x.row(0, r, rows[r]);
        }
        return x;
    }

    static BittenBoards order(int things, int rule) {
        BittenBoards x = new BittenBoards();
        x.order(rule);
        for (int k = 0; k < things; k++) {
            x.thing(0);
        }
        return x;
    }

    /** Thing 0 is below all others, thing 1 below all but that one, and so on. */
    static BittenBoards chain(int things, int rule) {
        BittenBoards x = order(things, rule);
        for (int k = 1; k < things; k++) {
            x.below(0, k - 1, k);
        }
        return x;
    }

    static BittenBoards net(int posts, int rule) {
        BittenBoards x = new BittenBoards();
        x.net(rule);
        for (int k = 0; k < posts; k++) {
            x.post(0);
        }
        return x;
    }

    /** Six posts in a ring, and three roads more between posts 0 and 1. */
    static BittenBoards fullNet(int rule) {
        BittenBoards x = net(6, rule);
        for (int k = 0; k < 6; k++) {
            x.road(0, k, (k + 1) % 6);
        }
        for (int k = 0; k < 3; k++) {
            x.road(0, 0, 1);
        }
        return x;
    }

    static BittenBoards sixOrders() {
        BittenBoards x = new BittenBoards();
        for (int k = 0; k < 6; k++) {
            x.order(0);
        }
        return x;
    }

    /** Rows 0, an order 1 and a net 2, each with a play; none of them is full. */
    static BittenBoards three() {
        BittenBoards x = new BittenBoards();
        putThree(x);
        return x;
    }

    static void putThree(BittenBoards x) {
        x.rows(4, 5, 0);
        x.play(0, 18);
        x.play(0, 9);
        x.order(1);
        for (int k = 0; k < 5; k++) {
            x.thing(1);
        }
        x.below(1, 0, 1);
        x.below(1, 1, 3);
        x.below(1, 2, 3);
        x.play(1, 1);
        x.play(1, 2);
        x.net(0);
        for (int k = 0; k < 4; k++) {
            x.post(2);
        }
        for (int k = 0; k < 4; k++) {
            x.road(2, k, (k + 1) % 4);
        }
        x.play(2, 6);
        x.play(2, 0);
    }

    /** As three(), and a full order 3, a full net 4, and rows 5 that have ended. */
    static BittenBoards six() {
        BittenBoards x = three();
        x.divisors(60, 0);
        x.play(3, 4);
        x.net(1);
        for (int k = 0; k < 6; k++) {
            x.post(4);
        }
        for (int k = 0; k < 9; k++) {
            x.road(4, k % 6, (k + 1 + k / 6) % 6);
        }
        x.play(4, 3);
        x.play(4, 8);
        x.rows(1, 2, 1);
        x.play(5, 1);
        x.play(5, 0);
        return x;
    }
}
