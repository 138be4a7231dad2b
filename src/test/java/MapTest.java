/** Promises 13, 15, 27 and 28: pieces, shares, how far the zonings are apart, and numbers. */
public final class MapTest {
    public static void main(String[] args) {
        pieces();
        howManyPieces();
        shares();
        zoningsApart();
        numbers();
        Checks.finish("MapTest");
    }

    private static void piece(ZoneShares x, int k, int old, int zone, int land, int cells) {
        Checks.due("piece(" + k + ", 0)", x.piece(k, 0), old);
        Checks.due("piece(" + k + ", 1)", x.piece(k, 1), zone);
        Checks.due("piece(" + k + ", 2)", x.piece(k, 2), land);
        Checks.due("piece(" + k + ", 3)", x.piece(k, 3), cells);
    }

    private static void pieces() {
        ZoneShares x = Checks.map("hhaaa./aahhh.", "b..bba/hab.ba", "000001/321122");
        Checks.due("piece(-1, 0)", x.piece(-1, 0), 9);
        piece(x, 0, 0, 0, 2, 1);
        piece(x, 1, 0, 1, 0, 2);
        piece(x, 2, 0, 7, 3, 1);
        piece(x, 3, 0, 8, 0, 1);
        piece(x, 4, 7, 1, 0, 1);
        piece(x, 5, 7, 1, 1, 1);
        piece(x, 6, 7, 1, 2, 1);
        piece(x, 7, 7, 8, 0, 1);
        piece(x, 8, 7, 8, 1, 1);
        Checks.due("piece(9, 0)", x.piece(9, 0), -1);
        Checks.due("piece(-2, 0)", x.piece(-2, 0), -1);
        Checks.due("piece(0, 4)", x.piece(0, 4), -1);
        Checks.due("piece(0, -1)", x.piece(0, -1), -1);
        Checks.due("piece(most, 0)", x.piece(Integer.MAX_VALUE, 0), -1);
        ZoneShares y = new ZoneShares();
        Checks.layer(y, 0, "a");
        Checks.layer(y, 1, "a");
        Checks.due("without LAND", y.piece(0, 0), -1);
        Checks.due("without LAND", y.piece(-1, 0), -1);
    }

    /** The k of how many there are is no way round the what: that must be 0 to 3 there, too. */
    private static void howManyPieces() {
        ZoneShares x = Checks.map("aab/abb", "aba/cb.", "012/001");
        for (int what = 0; what <= 3; what++) {
            Checks.due("piece(-1, " + what + ")", x.piece(-1, what), 6);
        }
        ZoneShares none = Checks.map("...", "a.b", "000");
        Checks.due("without a PIECE piece(-1, 3)", none.piece(-1, 3), 0);
        ZoneShares y = new ZoneShares();
        Checks.layer(y, 0, "a");
        for (int what : new int[] {-2, -1, 4, 5, 8, 9, Integer.MIN_VALUE, Integer.MAX_VALUE}) {
            Checks.due("piece(-1, " + what + ")", x.piece(-1, what), -1);
            Checks.due("piece(0, " + what + ")", x.piece(0, what), -1);
            Checks.due("without a PIECE piece(-1, " + what + ")", none.piece(-1, what), -1);
            Checks.due("without a whole MAP piece(-1, " + what + ")", y.piece(-1, what), -1);
        }
    }

    private static void share(ZoneShares x, int old, int zone, int numerator, int denominator) {
        Checks.due("share(0, " + old + ", " + zone + ", 0)", x.share(0, old, zone, 0), numerator);
        Checks.due("share(0, " + old + ", " + zone + ", 1)", x.share(0, old, zone, 1), denominator);
    }

    private static void shares() {
        ZoneShares x = Checks.map("aaaac.", "aabbc.", "012303");
        share(x, 0, 0, 1, 2);
        x.weigh(0, 1, 5);
        share(x, 0, 0, 3, 4);
        share(x, 0, 1, 1, 4);
        share(x, 0, 2, 0, 1);
        share(x, 0, 8, 0, 1);
        share(x, 2, 2, 1, 1);
        Checks.due("another GROUP has its own", x.share(1, 0, 0, 1), 2);
        x.weigh(0, 2, 0);
        x.weigh(0, 3, 0);
        share(x, 0, 0, 1, 1);
        share(x, 0, 1, 0, 1);
        x.weigh(0, 0, 0);
        x.weigh(0, 1, 0);
        // no WEIGHT counts: CELLS by CELLS
        share(x, 0, 1, 1, 2);
        share(x, 2, 2, 1, 1);
        Checks.due("b is no OLD ZONE", x.share(0, 1, 0, 0), -1);
        Checks.due("share(3, 0, 0, 0)", x.share(3, 0, 0, 0), -1);
        Checks.due("share(-1, 0, 0, 0)", x.share(-1, 0, 0, 0), -1);
        Checks.due("share(0, 8, 0, 0)", x.share(0, 8, 0, 0), -1);
        Checks.due("share(0, -1, 0, 0)", x.share(0, -1, 0, 0), -1);
        Checks.due("share(0, 0, 9, 0)", x.share(0, 0, 9, 0), -1);
        Checks.due("share(0, 0, -1, 0)", x.share(0, 0, -1, 0), -1);
        Checks.due("share(0, 0, 0, 2)", x.share(0, 0, 0, 2), -1);
        Checks.due("share(0, 0, 0, -1)", x.share(0, 0, 0, -1), -1);
        Checks.layer(x, 0, "aa");
        Checks.due("no whole MAP", x.share(0, 0, 0, 0), -1);
    }

    private static void apart(ZoneShares x, int... found) {
        for (int what = 0; what < 4; what++) {
            Checks.due("apart(" + what + ")", x.apart(what), found[what]);
        }
    }

    private static void zoningsApart() {
        ZoneShares x = new ZoneShares();
        Checks.layer(x, 0, "aabbcd..");
        Checks.due("without NEW", x.apart(0), -1);
        Checks.layer(x, 1, "bb.acdd.");
        // a is b of NEW; b lies OUT and in a; c is c; d has a cell less than d of NEW
        apart(x, 5, 2, 1, 1);
        Checks.due("apart(4)", x.apart(4), -1);
        Checks.due("apart(-1)", x.apart(-1), -1);
        Checks.layer(x, 1, "aabbcd..");
        apart(x, 0, 4, 0, 0);
        Checks.layer(x, 1, "........");
        // all of a zone OUT is not in more than one, and OUT is no ZONE
        apart(x, 6, 0, 0, 4);
        Checks.layer(x, 1, "aaaaaaaa");
        apart(x, 6, 0, 0, 0);
        Checks.layer(x, 0, "........");
        apart(x, 8, 0, 0, 0);
    }

    private static void numbers() {
        ZoneShares x = new ZoneShares();
        Checks.layer(x, 0, "ab./ccc");
        Checks.layer(x, 2, "333/330");
        numbers(x, 6, 2, 3, 0, 2, 0, 0, 5, 2, 0, 0, 0);
        Checks.counts(x, 0, "a=3,d=4");
        Checks.counts(x, 2, "c=10,?=1");
        x.settle(0, 1);
        numbers(x, 6, 2, 3, 0, 2, 1, 0, 5, 5, 0, 0, 0);
        Checks.layer(x, 1, "h../h..");
        x.feed(0, 0, 0, 0, 0);
        numbers(x, 6, 2, 3, 1, 2, 1, 0, 7, 6, 20, 13, 5);
        x.settle(1, 1);
        numbers(x, 6, 2, 3, 1, 2, 1, 1, 7, 7, 20, 18, 0);
        Checks.due("count(12)", x.count(12), -1);
        Checks.due("count(-1)", x.count(-1), -1);
        Checks.due("count(least)", x.count(Integer.MIN_VALUE), -1);
    }

    private static void numbers(ZoneShares x, int... want) {
        for (int what = 0; what < want.length; what++) {
            Checks.due("count(" + what + ")", x.count(what), want[what]);
        }
    }
}
