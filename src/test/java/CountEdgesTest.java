/** Each sentence of promises 27 and 28, and what every call answers without a whole MAP. */
public final class CountEdgesTest {
    private static final int[] FAR = {256, 1 << 16, Integer.MIN_VALUE, Integer.MAX_VALUE};
    private static final String[] WHOLE = {"aab/a.b", "aba/cb.", "012/001"};

    public static void main(String[] args) {
        unlikeSigns();
        justItsCells();
        moreThanOne();
        fallsOut();
        apartNone();
        cellsAndRows();
        zonesAndLands();
        settings();
        layersAsBits();
        actsThatCanBeUndone();
        bytesOfTheTape();
        peopleMoved();
        peopleAside();
        zeroWithoutMap();
        countNone();
        withoutAWholeMap();
        Checks.finish("CountEdgesTest");
    }

    private static ZoneShares two(String old, String fresh) {
        ZoneShares x = new ZoneShares();
        Checks.layer(x, 0, old);
        Checks.layer(x, 1, fresh);
        return x;
    }

    private static void unlikeSigns() {
        Checks.says("27", "How many CELLS have unlike signs in OLD and NEW (what 0),");
        Checks.due("none", two("abc/.ha", "abc/.ha").apart(0), 0);
        Checks.due("one", two("abc/.ha", "abc/.hb").apart(0), 1);
        Checks.due("the first", two("abc/.ha", ".bc/.ha").apart(0), 1);
        Checks.due(". and a letter", two("abc/.ha", "abc/aha").apart(0), 1);
        Checks.due("all", two("abc/.ha", "bca/h.h").apart(0), 6);
        Checks.due(". alone", two("...", "...").apart(0), 0);
        Checks.due("one CELL", two("a", "h").apart(0), 1);
    }

    private static void justItsCells() {
        Checks.says("27", "how many OLD ZONES are a NEW one, with just its CELLS (1),");
        Checks.due("all", two("abc", "abc").apart(1), 3);
        Checks.due("by other letters", two("aabbh", "ccaah").apart(1), 3);
        Checks.due("a CELL more in NEW", two("aab.", "aabb").apart(1), 1);
        Checks.due("a CELL less in NEW", two("aab", "a.b").apart(1), 1);
        Checks.due("a CELL of each in the other", two("aabb", "abab").apart(1), 0);
        Checks.due("two in one", two("ab", "aa").apart(1), 0);
        Checks.due("one in two", two("aa", "ab").apart(1), 0);
        Checks.due("OUT is no ZONE", two("aa.", "..a").apart(1), 0);
        Checks.due(". of OLD is no ZONE", two("..", "aa").apart(1), 0);
        Checks.due("eight", two("abcdefgh", "hgfedcba").apart(1), 8);
        Checks.due("CELLS far from each other", two("aba/bab", "hgh/ghg").apart(1), 2);
    }

    private static void moreThanOne() {
        Checks.says("27", "lie in more than one NEW ZONE, OUT too (2),");
        Checks.due("none", two("aabb", "aabb").apart(2), 0);
        Checks.due("two ZONES", two("aabb", "abbb").apart(2), 1);
        Checks.due("a ZONE and OUT", two("aabb", "a.bb").apart(2), 1);
        Checks.due("OUT alone", two("aabb", "..bb").apart(2), 0);
        Checks.due("three", two("aaabbb", "abcab.").apart(2), 2);
        Checks.due("nobody", two("....", "abcd").apart(2), 0);
        Checks.due("eight", two("abcdefgh/abcdefgh", "aaaaaaaa/........").apart(2), 8);
    }

    private static void fallsOut() {
        Checks.says("27", "have a CELL that falls OUT (3).");
        Checks.due("none", two("ab.", "aa.").apart(3), 0);
        Checks.due("one", two("ab.", "a..").apart(3), 1);
        Checks.due("both", two("ab.", "..a").apart(3), 2);
        Checks.due("a CELL of many", two("aaa/bbb", "aa./bbb").apart(3), 1);
        Checks.due("many CELLS", two("aaa/bbb", "a../bbb").apart(3), 1);
        Checks.due("eight", two("abcdefgh", "........").apart(3), 8);
    }

    private static void apartNone() {
        Checks.says("27", "NONE for others, or without OLD, NEW.");
        ZoneShares x = two("ab", "ba");
        for (int what = -3; what <= 7; what++) {
            Checks.due("apart(" + what + ")", (x.apart(what) == -1) != (what >= 0 && what <= 3));
        }
        for (int far : FAR) {
            Checks.due("apart(" + far + ")", x.apart(far), -1);
        }
        ZoneShares y = new ZoneShares();
        ZoneShares z = two("ab", "ba");
        Checks.layer(z, 0, "abc");
        for (int what = 0; what < 4; what++) {
            Checks.due("of a new object", y.apart(what), -1);
            Checks.due("NEW is no more", z.apart(what), -1);
        }
        Checks.layer(y, 0, "ab");
        Checks.layer(y, 2, "01");
        for (int what = 0; what < 4; what++) {
            Checks.due("without NEW", y.apart(what), -1);
        }
        Checks.layer(y, 1, "ab");
        Checks.due("with NEW", y.apart(0), 0);
    }

    private static void cellsAndRows() {
        Checks.says("28", "What 0: CELLS, 1: rows,");
        ZoneShares x = new ZoneShares();
        Checks.due("CELLS without OLD", x.count(0), 0);
        Checks.due("rows without OLD", x.count(1), 0);
        for (int rows = 1; rows <= 8; rows++) {
            for (int columns = 1; columns <= 12; columns++) {
                String row = "/" + "a".repeat(columns);
                Checks.layer(x, 0, row.repeat(rows).substring(1));
                Checks.due("CELLS", x.count(0), rows * columns);
                Checks.due("rows", x.count(1), rows);
            }
        }
        x.undo();
        Checks.due("CELLS", x.count(0), 88);
        Checks.due("rows", x.count(1), 8);
    }

    private static void zonesAndLands() {
        Checks.says("28", "2: OLD ZONES, 3: NEW ZONES, 4: LANDS,");
        String[][] maps = {{"a", "a", "0"}, {".", ".", "3"}, {"abcdefgh", "aaaaaaaa", "01230123"},
            {"hhhhhhhh", "hgfedcba", "33333333"}, {"a.c.e.g.", ".b.d.f.h", "02020202"}, {"....", "h...", "1110"}};
        int[][] due = {{1, 1, 1}, {0, 0, 1}, {8, 1, 4}, {1, 8, 1}, {4, 4, 2}, {0, 1, 2}};
        for (int k = 0; k < maps.length; k++) {
            ZoneShares x = new ZoneShares();
            for (int layer = 0; layer < 3; layer++) {
                for (int other = 0; other < 3; other++) {
                    Checks.due("count(" + (2 + other) + ") of " + maps[k][other], x.count(2 + other),
                            other < layer ? due[k][other] : 0);
                }
                Checks.layer(x, layer, maps[k][layer]);
            }
            for (int other = 0; other < 3; other++) {
                Checks.due("count(" + (2 + other) + ") of " + maps[k][other], x.count(2 + other), due[k][other]);
            }
            Checks.layer(x, 0, "abc/abc");
            Checks.due("NEW is no more", x.count(3), 0);
            Checks.due("LAND is no more", x.count(4), 0);
        }
    }

    private static void settings() {
        Checks.says("28", "5: ROUNDING, 6: UNKNOWN,");
        ZoneShares x = new ZoneShares();
        for (int k = 0; k < 8; k++) {
            x.settle(0, k & 1);
            x.settle(1, k >> 1 & 1);
            Checks.due("ROUNDING", x.count(5), k & 1);
            Checks.due("UNKNOWN", x.count(6), k >> 1 & 1);
        }
        // the SETTING, not the people
        Checks.counts(x, 0, "?=50");
        x.settle(1, 0);
        Checks.due("UNKNOWN", x.count(6), 0);
    }

    private static void layersAsBits() {
        Checks.says("28", "7: LAYERS that are told, as bits,");
        ZoneShares x = new ZoneShares();
        Checks.due("none", x.count(7), 0);
        Checks.layer(x, 0, "a");
        Checks.due("OLD", x.count(7), 1);
        Checks.layer(x, 2, "0");
        Checks.due("OLD, LAND", x.count(7), 5);
        Checks.layer(x, 1, "a");
        Checks.due("all", x.count(7), 7);
        x.undo();
        x.undo();
        Checks.layer(x, 1, "a");
        Checks.due("OLD, NEW", x.count(7), 3);
        Checks.layer(x, 0, "b");
        Checks.due("told anew", x.count(7), 3);
        Checks.layer(x, 0, "bb");
        Checks.due("otherwise large", x.count(7), 1);
        x.adopt();
        Checks.due("adopt() that is refused", x.count(7), 1);
    }

    private static void actsThatCanBeUndone() {
        Checks.says("28", "8: ACTS that can be UNDONE,");
        ZoneShares x = new ZoneShares();
        for (int k = 0; k < 12; k++) {
            Checks.due("behind " + k, x.count(8), Math.min(8, k));
            x.district(k % 8, 1 + k / 8);
        }
        for (int k = 8; k > 0; k--) {
            Checks.due("still", x.count(8), k);
            x.undo();
        }
        Checks.due("none", x.count(8), 0);
        x.undo();
        Checks.due("none", x.count(8), 0);
    }

    private static void bytesOfTheTape() {
        Checks.says("28", "9: bytes of the TAPE,");
        ZoneShares x = new ZoneShares();
        Checks.due("none", x.count(9), 0);
        for (int k = 1; k <= 10; k++) {
            x.feed(0, 0, 0, 0, 0);
            Checks.due("fed", x.count(9), 20 * k);
        }
        x.feed(0, 0, 0, 0, 0);
        Checks.due("refused", x.count(9), 200);
        x.end(7);
        Checks.due("ended", x.count(9), 7);
        x.end(8);
        Checks.due("refused", x.count(9), 7);
        x.layer(0);
        Checks.due("told", x.count(9), 0);
    }

    private static ZoneShares people() {
        ZoneShares x = Checks.map("aab.", "a..b", "0000");
        Checks.counts(x, 0, "a=10,b=7,?=5");
        Checks.counts(x, 1, "a=100,h=30");
        Checks.counts(x, 2, "?=2000");
        return x;
    }

    private static void peopleMoved() {
        Checks.says("28", "10: people MOVED, of all GROUPS,");
        ZoneShares x = people();
        Checks.due("who is OUT is MOVED, too", x.count(10), 117);
        x.settle(1, 1);
        Checks.due("SHARED", x.count(10), 2152);
        x.settle(0, 1);
        Checks.due("BALANCED", x.count(10), 2152);
        Checks.layer(x, 1, "....");
        Checks.due("all OUT", x.count(10), 2152);
        Checks.layer(x, 0, "....");
        Checks.due("no ZONE", x.count(10), 0);
        Checks.due("of nobody", Checks.map("a", "a", "0").count(10), 0);
    }

    private static void peopleAside() {
        Checks.says("28", "11: those who are ASIDE, of all GROUPS");
        ZoneShares x = people();
        Checks.due("ASIDE", x.count(11), 5 + 30 + 2000);
        x.settle(1, 1);
        Checks.due("SHARED", x.count(11), 0);
        Checks.layer(x, 0, "....");
        Checks.due("no ZONE", x.count(11), 2152);
        Checks.due("all are one or the other", x.count(10) + x.count(11), 2152);
    }

    private static void zeroWithoutMap() {
        Checks.says("28", "(10, 11: 0 without a whole MAP).");
        for (int missing = 0; missing < 3; missing++) {
            ZoneShares x = new ZoneShares();
            for (int what = 0; what < 3 && missing > 0; what++) {
                if (what != missing) {
                    Checks.layer(x, what, what < 2 ? "ab" : "01");
                }
            }
            Checks.counts(x, 0, "a=5,?=6");
            Checks.due("MOVED without " + missing, x.count(10), 0);
            Checks.due("ASIDE without " + missing, x.count(11), 0);
            Checks.due("though they are ASIDE", x.people(0, 9), missing == 0 ? 11 : 6);
        }
        ZoneShares x = people();
        Checks.layer(x, 0, "aab");
        Checks.due("MOVED", x.count(10), 0);
        Checks.due("ASIDE", x.count(11), 0);
    }

    private static void countNone() {
        Checks.says("28", "NONE for others.");
        for (ZoneShares x : new ZoneShares[] {new ZoneShares(), Looks.told()}) {
            for (int what = -3; what <= 15; what++) {
                Checks.due("count(" + what + ")", (x.count(what) == -1) != (what >= 0 && what <= 11));
            }
            for (int far : FAR) {
                Checks.due("count(" + far + ")", x.count(far), -1);
            }
        }
    }

    /** Each call that needs a whole MAP: -1 or Long.MIN_VALUE as long as a LAYER is missing. */
    private static void withoutAWholeMap() {
        for (int told = 0; told < 5; told++) {
            ZoneShares x = new ZoneShares();
            for (int what = 0; what < 3; what++) {
                // none, OLD, OLD and NEW, OLD and LAND, all
                if (what == 0 && told > 0 || what == 1 && (told == 2 || told == 4) || what == 2 && told > 2) {
                    Checks.layer(x, what, WHOLE[what]);
                }
            }
            Checks.counts(x, 0, "a=10,b=7,?=5");
            boolean whole = told == 4;
            needs("13", x.piece(0, 0) == -1, whole);
            needs("13", x.piece(-1, 0) == -1, whole);
            needs("15", x.share(0, 0, 0, 0) == -1, whole);
            needs("16", x.moved(0, -1, -1) == -1, whole);
            needs("17", x.exact(0, 0, 2) == -1, whole);
            needs("18", x.coarse(0, 0, 0) == -1, whole);
            needs("18", x.coarse(0, 0, 1) == -1, whole);
            needs("19", x.misfit(0, 1) == -1, whole);
            needs("20", x.byWay(0, 0) == -1, whole);
            needs("21", x.returned(0, 8) == -1, whole);
            needs("22", x.astray(0) == -1, whole);
            needs("23", x.surface(0, 0, 0, 1) == -1, whole);
            needs("24", x.densest(0, 5) == -1, whole);
            for (int what = 0; what < 4; what++) {
                needs("25", x.dense(0, 0, what) == Long.MIN_VALUE, whole);
            }
            needs("26", x.off(0) == Long.MIN_VALUE, whole);
            needs("9", x.fit(0) == -1, whole);
            needs("10", x.adopt() == -1, whole);
        }
    }

    private static void needs(String promise, boolean none, boolean whole) {
        Checks.says(promise, "a whole MAP");
        Checks.due(whole ? "with a whole MAP" : "without one", none != whole);
    }
}
