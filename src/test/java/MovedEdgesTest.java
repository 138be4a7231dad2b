/** Each sentence of promises 13, 15, 16 and 17, of PIECES, SHARES and REMAINDERS in the Terms. */
public final class MovedEdgesTest {
    private static final int[] FAR = {256, 1 << 16, Integer.MIN_VALUE, Integer.MAX_VALUE};

    public static void main(String[] args) {
        cellsOfOnePiece();
        outIsEight();
        thePiecesInTurn();
        howManyPieces();
        piecesNone();
        shareByWeights();
        shareByCells();
        sharesAsked();
        shareOfNoCell();
        sharesNone();
        fallsThere();
        roundedDown();
        greatestRests();
        eachOnce();
        likeOnes();
        movedOfAll();
        movedNone();
        exactly();
        lowestTerms();
        exactNone();
        Checks.finish("MovedEdgesTest");
    }

    private static ZoneShares map(String old, String fresh, String land, String counts) {
        ZoneShares x = Checks.map(old, fresh, land);
        Checks.counts(x, 0, counts);
        return x;
    }

    private static void weigh(ZoneShares x, int... weights) {
        for (int land = 0; land < weights.length; land++) {
            x.weigh(0, land, weights[land]);
        }
    }

    /** Who is moved from a ZONE to the NEW ones, OUT last. */
    private static void moved(ZoneShares x, int old, String due) {
        StringBuilder seen = new StringBuilder();
        for (int zone = 0; zone <= 8; zone++) {
            seen.append(zone > 0 ? " " : "").append(x.moved(0, old, zone));
        }
        Checks.due("from " + old + " are moved " + seen + ", due are " + due, seen.toString().equals(due));
    }

    private static void piece(ZoneShares x, int k, int old, int zone, int land, int cells) {
        int[] due = {old, zone, land, cells};
        for (int what = 0; what < 4; what++) {
            Checks.due("piece(" + k + ", " + what + ")", x.piece(k, what), due[what]);
        }
    }

    private static void cellsOfOnePiece() {
        Checks.says("II", "PIECE: CELLS of one OLD ZONE, one NEW ZONE");
        // far from each other, but alike in all three
        ZoneShares x = Checks.map("aba/bbb/aba", "hhh/hhh/hhh", "303/010/303");
        Checks.due("PIECES", x.piece(-1, 0), 3);
        piece(x, 0, 0, 7, 3, 4);
        piece(x, 1, 1, 7, 0, 4);
        piece(x, 2, 1, 7, 1, 1);
    }

    private static void outIsEight() {
        Checks.says("II", "or OUT (8), one LAND.");
        ZoneShares x = Checks.map("aaaa", ".h.h", "0123");
        Checks.due("PIECES", x.piece(-1, 0), 4);
        piece(x, 0, 0, 7, 1, 1);
        piece(x, 1, 0, 7, 3, 1);
        piece(x, 2, 0, 8, 0, 1);
        piece(x, 3, 0, 8, 2, 1);
    }

    private static void thePiecesInTurn() {
        Checks.says("13", "Of the k-th PIECE (0 the first; by OLD, then NEW, OUT last, then LAND) what 0: its OLD ZONE, 1: its NEW one (8: OUT), 2: LAND, 3: CELLS;");
        // as many PIECES as can be: each CELL is one
        String[] rows = new String[8];
        String[] fresh = new String[8];
        String[] land = new String[8];
        for (int row = 0; row < 8; row++) {
            rows[row] = ("" + (char) ('h' - row)).repeat(12);
            fresh[row] = "....hhhhaaaa";
            land[row] = row % 2 == 0 ? "321032103210" : "012301230123";
        }
        ZoneShares x = Checks.map(String.join("/", rows), String.join("/", fresh), String.join("/", land));
        int[] zones = {0, 7, 8};
        for (int k = 0; k < 96; k++) {
            piece(x, k, k / 12, zones[k / 4 % 3], k % 4, 1);
        }
        Checks.due("PIECES", x.piece(-1, 0), 96);
        Checks.due("piece(96, 0)", x.piece(96, 0), -1);
        // as great a PIECE as can be
        ZoneShares y = Checks.map(String.join("/", rows).replaceAll("[a-h]", "h"),
                String.join("/", fresh).replaceAll("[.a-h]", "."), String.join("/", land).replaceAll("[0-3]", "3"));
        Checks.due("PIECES", y.piece(-1, 3), 1);
        piece(y, 0, 7, 8, 3, 96);
    }

    private static void howManyPieces() {
        Checks.says("13", "k NONE: how many there are.");
        String[][] maps = {{"a", "a", "0"}, {".", "a", "0"}, {"ab", "aa", "00"}, {"aa", "ab", "00"},
            {"aa", "aa", "01"}, {"aa", "a.", "00"}, {"a.", "a.", "01"}, {"...", "abc", "012"}};
        int[] due = {1, 0, 2, 2, 2, 2, 1, 0};
        for (int k = 0; k < maps.length; k++) {
            ZoneShares x = Checks.map(maps[k][0], maps[k][1], maps[k][2]);
            for (int what = 0; what < 4; what++) {
                Checks.due("piece(-1, " + what + ") of " + maps[k][0], x.piece(-1, what), due[k]);
                Checks.due("the last PIECE", x.piece(due[k] - 1, what) >= 0);
                Checks.due("one behind it", x.piece(due[k], what), -1);
            }
        }
    }

    private static void piecesNone() {
        Checks.says("13", "NONE without these, or a whole MAP.");
        ZoneShares x = Looks.told();
        for (int k = -3; k <= 8; k++) {
            for (int what = -2; what <= 6; what++) {
                boolean there = k >= -1 && k < 5 && what >= 0 && what <= 3;
                Checks.due("piece(" + k + ", " + what + ")", (x.piece(k, what) == -1) != there);
            }
        }
        for (int far : FAR) {
            Checks.due("piece(" + far + ", 0)", x.piece(far, 0), -1);
            Checks.due("piece(0, " + far + ")", x.piece(0, far), -1);
            Checks.due("piece(-1, " + far + ")", x.piece(-1, far), -1);
        }
    }

    private static void share(ZoneShares x, int group, int old, int zone, int numerator, int denominator) {
        String call = "share(" + group + ", " + old + ", " + zone + ", ";
        Checks.due(call + "0)", x.share(group, old, zone, 0), numerator);
        Checks.due(call + "1)", x.share(group, old, zone, 1), denominator);
    }

    private static void shareByWeights() {
        Checks.says("II", "SHARE of an OLD ZONE that falls to a NEW one: WEIGHTS of its CELLS there, together, by those of all its CELLS;");
        ZoneShares x = Checks.map("aaaab.", "abb.aa", "012301");
        x.weigh(1, 0, 2);
        x.weigh(1, 1, 3);
        x.weigh(1, 2, 6);
        x.weigh(1, 3, 9);
        share(x, 1, 0, 0, 1, 10);
        share(x, 1, 0, 1, 9, 20);
        share(x, 1, 0, 8, 9, 20);
        share(x, 1, 1, 0, 1, 1);
        // each GROUP by its own WEIGHTS
        share(x, 0, 0, 0, 1, 4);
        share(x, 2, 0, 1, 1, 2);
        x.weigh(1, 3, 0);
        share(x, 1, 0, 8, 0, 1);
        share(x, 1, 0, 1, 9, 11);
    }

    private static void shareByCells() {
        Checks.says("II", "are these 0, CELLS by CELLS.");
        ZoneShares x = Checks.map("aaabbb", "abbabb", "012333");
        weigh(x, 0, 0, 0, 1);
        share(x, 0, 0, 0, 1, 3);
        share(x, 0, 0, 1, 2, 3);
        // the limit: one WEIGHT of 1 in a is enough, and none of b is of a
        x.weigh(0, 1, 1);
        share(x, 0, 0, 0, 0, 1);
        share(x, 0, 0, 1, 1, 1);
        share(x, 0, 1, 0, 1, 3);
        // b alone without WEIGHTS
        x.weigh(0, 3, 0);
        share(x, 0, 1, 0, 1, 3);
        share(x, 0, 0, 1, 1, 1);
        Checks.counts(x, 0, "a=3,b=3");
        moved(x, 0, "0 3 0 0 0 0 0 0 0");
        moved(x, 1, "1 2 0 0 0 0 0 0 0");
    }

    private static void sharesAsked() {
        Checks.says("15", "SHARE of an OLD ZONE that falls to a NEW one (0 to 8) for a GROUP what 0: numerator, 1: denominator, in lowest terms");
        ZoneShares x = Checks.map("hhhhhhhhhhhh/aaaaaaaaaaaa", "aabbbbcccccc/hhh.........", "000000000000/111111111111");
        share(x, 0, 7, 0, 1, 6);
        share(x, 0, 7, 1, 1, 3);
        share(x, 0, 7, 2, 1, 2);
        share(x, 0, 0, 7, 1, 4);
        share(x, 0, 0, 8, 3, 4);
        weigh(x, 9, 6);
        share(x, 2, 0, 8, 3, 4);
        share(x, 0, 0, 8, 3, 4);
        share(x, 0, 7, 1, 1, 3);
    }

    private static void shareOfNoCell() {
        Checks.says("15", "(0 by 1, if it has no CELL there).");
        ZoneShares x = Checks.map("aab.", "abbc", "0123");
        for (int zone = 0; zone <= 8; zone++) {
            if (zone > 1) {
                share(x, 0, 0, zone, 0, 1);
            }
            if (zone != 1) {
                share(x, 0, 1, zone, 0, 1);
            }
        }
        share(x, 0, 0, 1, 1, 2);
    }

    private static void sharesNone() {
        Checks.says("15", "NONE without these, the OLD ZONE on the MAP, or a whole MAP.");
        ZoneShares x = Checks.map("abcdefg/.......", "abcdefg/hhhhhhh", "0123012/3012301");
        for (int group = -2; group <= 4; group++) {
            for (int old = -2; old <= 9; old++) {
                for (int zone = -2; zone <= 10; zone++) {
                    for (int what = -1; what <= 2; what++) {
                        boolean there = group >= 0 && group <= 2 && old >= 0 && old <= 6 && zone >= 0 && zone <= 8
                                && what >= 0 && what <= 1;
                        Checks.due("share(" + group + ", " + old + ", " + zone + ", " + what + ")",
                                (x.share(group, old, zone, what) == -1) != there);
                    }
                }
            }
        }
        for (int far : FAR) {
            Checks.due("a GROUP far off", x.share(far, 0, 0, 0), -1);
            Checks.due("an OLD ZONE far off", x.share(0, far, 0, 0), -1);
            Checks.due("a NEW ZONE far off", x.share(0, 0, far, 0), -1);
            Checks.due("a what far off", x.share(0, 0, 0, far), -1);
        }
        // people of a ZONE that OLD has not don't bring it on the MAP
        Checks.counts(x, 0, "h=50");
        Checks.due("h is not on the MAP", x.share(0, 7, 7, 0), -1);
        Checks.layer(x, 0, "abcdefg/h......");
        share(x, 0, 7, 7, 1, 1);
    }

    private static void fallsThere() {
        Checks.says("II", "Exactly PEOPLE of the OLD ZONE times SHARE fall there.");
        ZoneShares x = map("aaab", "ab.a", "0123", "a=7,b=2,?=4");
        exact(x, 0, 4, 1, 3);
        exact(x, 1, 2, 1, 3);
        exact(x, 8, 2, 1, 3);
        x.weigh(0, 1, 4);
        exact(x, 0, 3, 1, 6);
        exact(x, 1, 4, 2, 3);
        // with what it has of the UNKNOWN: 3 of them to a, 1 to b
        x.settle(1, 1);
        Checks.due("PEOPLE", x.people(0, 0), 10);
        exact(x, 0, 4, 2, 3);
        exact(x, 1, 6, 2, 3);
        exact(x, 8, 1, 2, 3);
    }

    private static void roundedDown() {
        Checks.says("II", "MOVED by ROUNDING 0 REMAINDERS: of each OLD ZONE to each NEW one what falls there, rounded down;");
        ZoneShares x = map("aaab", "abcb", "0120", "a=9,b=4");
        // no rest: nothing is left over
        moved(x, 0, "3 3 3 0 0 0 0 0 0");
        moved(x, 1, "0 4 0 0 0 0 0 0 0");
        weigh(x, 1, 8, 9);
        // 9/18, 72/18 and 81/18: 4 and twice a half, one left over
        moved(x, 0, "1 4 4 0 0 0 0 0 0");
        Checks.counts(x, 0, "a=0,b=0");
        moved(x, 0, "0 0 0 0 0 0 0 0 0");
        ZoneShares y = map("aaaaaaaaaaaa", "ab..........", "000000000000", "a=9999");
        // 833 and a quarter each: 833 to a, 833 to b, and the rest of OUT is a half
        moved(y, 0, "833 833 0 0 0 0 0 0 8333");
    }

    private static void greatestRests() {
        Checks.says("II", "those who are left over, one by one, where the rest that was cut off is greatest,");
        // 1 by 2, 3 and 5 of 10
        ZoneShares x = map("aaa", "abc", "012", "a=1");
        weigh(x, 2, 3, 5);
        moved(x, 0, "0 0 1 0 0 0 0 0 0");
        weigh(x, 5, 3, 2);
        moved(x, 0, "1 0 0 0 0 0 0 0 0");
        weigh(x, 3, 5, 2);
        moved(x, 0, "0 1 0 0 0 0 0 0 0");
        // the rest counts, not who is there already: 11 by 1, 8 and 1 is 1.1, 8.8 and 1.1
        weigh(x, 1, 8, 1);
        Checks.counts(x, 0, "a=11");
        moved(x, 0, "1 9 1 0 0 0 0 0 0");
        // 1.3, 10.4 and 1.3
        Checks.counts(x, 0, "a=13");
        moved(x, 0, "1 11 1 0 0 0 0 0 0");
        // 1.4, 11.2 and 1.4
        Checks.counts(x, 0, "a=14");
        moved(x, 0, "2 11 1 0 0 0 0 0 0");
        // OUT with the greatest: a third to a
        ZoneShares y = map("aaa", "a..", "000", "a=1");
        moved(y, 0, "0 0 0 0 0 0 0 0 1");
    }

    private static void eachOnce() {
        Checks.says("II", "each once,");
        // 2 by 9, 6 and 5 of 20: rests of .9, .6 and .5, two left over
        ZoneShares x = map("aaa", "cba", "012", "a=2");
        weigh(x, 9, 6, 5);
        moved(x, 0, "0 1 1 0 0 0 0 0 0");
        // three of four thirds left over: eight by 2/3
        ZoneShares y = map("aaa", "hg.", "000", "a=2");
        moved(y, 0, "0 0 0 0 0 0 1 1 0");
        // eight of nine ZONES get one each
        ZoneShares z = map("aaaaaaaaa", "abcdefgh.", "000000000", "a=8");
        moved(z, 0, "1 1 1 1 1 1 1 1 0");
        Checks.counts(z, 0, "a=17");
        moved(z, 0, "2 2 2 2 2 2 2 2 1");
        Checks.counts(z, 0, "a=10");
        moved(z, 0, "2 1 1 1 1 1 1 1 1");
    }

    private static void likeOnes() {
        Checks.says("II", "of like ones to the first ZONE (OUT last).");
        ZoneShares x = map("aa", ".h", "00", "a=1");
        moved(x, 0, "0 0 0 0 0 0 0 1 0");
        ZoneShares y = map("aaa", "h.c", "000", "a=1");
        moved(y, 0, "0 0 1 0 0 0 0 0 0");
        Checks.counts(y, 0, "a=2");
        moved(y, 0, "0 0 1 0 0 0 0 1 0");
        // each OLD ZONE on its own: a has a greater rest OUT than b has anywhere
        ZoneShares w = map("aabbb", "a.abc", "00000", "a=1,b=1");
        moved(w, 0, "1 0 0 0 0 0 0 0 0");
        moved(w, 1, "1 0 0 0 0 0 0 0 0");
        // not by where they stand on the MAP
        ZoneShares z = map("bb/bb", "ga/ag", "00/00", "b=3");
        moved(z, 1, "2 0 0 0 0 0 1 0 0");
    }

    private static void movedOfAll() {
        Checks.says("16", "People of a GROUP MOVED from an OLD ZONE (NONE: of all) to a NEW one (0 to 8; NONE: to all).");
        ZoneShares x = Checks.map("aab/a.b/hh.", "aba/cb./.ha", "012/001/233");
        Checks.counts(x, 0, "a=10,b=7,h=5,?=5");
        Checks.counts(x, 1, "b=3,c=4");
        for (int group = 0; group < 3; group++) {
            int all = 0;
            for (int old = 0; old < 8; old++) {
                int row = 0;
                for (int zone = 0; zone <= 8; zone++) {
                    row += x.moved(group, old, zone);
                }
                Checks.due("moved(" + group + ", " + old + ", -1)", x.moved(group, old, -1), row);
                Checks.due("all PEOPLE", row, x.people(group, old));
                all += row;
            }
            for (int zone = 0; zone <= 8; zone++) {
                int column = 0;
                for (int old = 0; old < 8; old++) {
                    column += x.moved(group, old, zone);
                }
                Checks.due("moved(" + group + ", -1, " + zone + ")", x.moved(group, -1, zone), column);
            }
            Checks.due("moved(" + group + ", -1, -1)", x.moved(group, -1, -1), all);
        }
        Checks.due("of all, to all", x.moved(0, -1, -1), 22);
        Checks.due("from h OUT", x.moved(0, 7, 8), 2);
        Checks.due("from h to h", x.moved(0, 7, 7), 3);
        Checks.due("from h to all", x.moved(0, 7, -1), 5);
        Checks.due("from all to h", x.moved(0, -1, 7), 3);
        Checks.due("from all OUT", x.moved(0, -1, 8), 5);
    }

    private static void movedNone() {
        Checks.says("16", "NONE without these, or a whole MAP.");
        ZoneShares x = Looks.told();
        for (int group = -2; group <= 4; group++) {
            for (int old = -3; old <= 10; old++) {
                for (int zone = -3; zone <= 11; zone++) {
                    boolean there = group >= 0 && group <= 2 && old >= -1 && old <= 7 && zone >= -1 && zone <= 8;
                    Checks.due("moved(" + group + ", " + old + ", " + zone + ")",
                            (x.moved(group, old, zone) == -1) != there);
                }
            }
        }
        for (int far : FAR) {
            Checks.due("a GROUP far off", x.moved(far, 0, 0), -1);
            Checks.due("an OLD ZONE far off", x.moved(0, far, 0), -1);
            Checks.due("a NEW ZONE far off", x.moved(0, 0, far), -1);
        }
    }

    private static void exact(ZoneShares x, int zone, long whole, long numerator, long denominator) {
        long[] due = {whole, numerator, denominator};
        for (int what = 0; what < 3; what++) {
            Checks.due("exact(0, " + zone + ", " + what + ")", x.exact(0, zone, what), due[what]);
        }
    }

    private static void exactly() {
        Checks.says("17", "What would fall to a NEW ZONE (0 to 8) of a GROUP exactly what 0: whole people, 1: numerator, 2: denominator of what is more,");
        // halves and thirds and fifths to h, the others OUT
        ZoneShares x = map("aabbbccccc", "h.h..h....", "0000000000", "a=1,b=1,c=1");
        exact(x, 7, 1, 1, 30);
        exact(x, 8, 1, 29, 30);
        exact(x, 0, 0, 0, 1);
        // whoever is moved, and however
        x.settle(0, 1);
        exact(x, 7, 1, 1, 30);
        // one less than a whole one, a whole one, one more
        Checks.counts(x, 0, "a=1,b=1");
        exact(x, 7, 0, 5, 6);
        exact(x, 8, 1, 1, 6);
        Checks.counts(x, 0, "a=1,c=5");
        exact(x, 7, 1, 1, 2);
        Checks.due("another GROUP", x.exact(1, 7, 0), 0);
        Checks.counts(x, 2, "a=9999");
        Checks.due("another GROUP", x.exact(2, 7, 0), 4999);
        Checks.due("another GROUP", x.exact(2, 7, 1), 1);
        Checks.due("another GROUP", x.exact(2, 7, 2), 2);
    }

    private static void lowestTerms() {
        Checks.says("17", "in lowest terms (0 by 1).");
        ZoneShares x = map("aabb", "cdcd", "0000", "a=1,b=1");
        exact(x, 2, 1, 0, 1);
        exact(x, 3, 1, 0, 1);
        exact(x, 8, 0, 0, 1);
        Checks.counts(x, 0, "a=1,b=2");
        exact(x, 2, 1, 1, 2);
        // 1/6 and 1/3 are a half, 5/6 and 2/3 one and a half
        ZoneShares y = map("aaaaaabbb", "abbbbbabb", "000000000", "a=1,b=1");
        exact(y, 0, 0, 1, 2);
        exact(y, 1, 1, 1, 2);
        ZoneShares z = map("aaaaaaaa", "abbb....", "00000000", "a=2");
        exact(z, 0, 0, 1, 4);
        exact(z, 1, 0, 3, 4);
        exact(z, 8, 1, 0, 1);
    }

    private static void exactNone() {
        Checks.says("17", "NONE without these, or a whole MAP.");
        ZoneShares x = Looks.told();
        for (int group = -2; group <= 4; group++) {
            for (int zone = -2; zone <= 10; zone++) {
                for (int what = -2; what <= 5; what++) {
                    boolean there = group >= 0 && group <= 2 && zone >= 0 && zone <= 8 && what >= 0 && what <= 2;
                    Checks.due("exact(" + group + ", " + zone + ", " + what + ")",
                            (x.exact(group, zone, what) == -1) != there);
                }
            }
        }
        for (int far : FAR) {
            Checks.due("a GROUP far off", x.exact(far, 0, 0), -1);
            Checks.due("a NEW ZONE far off", x.exact(0, far, 0), -1);
            Checks.due("a what far off", x.exact(0, 0, far), -1);
        }
    }
}
