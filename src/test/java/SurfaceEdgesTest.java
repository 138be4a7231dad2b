/** Each sentence of promises 23 to 26, of what falls to a CELL and of DENSITY in the Terms. */
public final class SurfaceEdgesTest {
    private static final int[] FAR = {256, 1 << 16, Integer.MIN_VALUE, Integer.MAX_VALUE};

    public static void main(String[] args) {
        byItsWeight();
        byCells();
        whereNobodyLives();
        lowestTerms();
        surfaceNone();
        greatestFirst();
        likeOnesByRows();
        twelveByTheRow();
        densestNone();
        peopleByCells();
        asBits();
        asFloat();
        remainderByOne();
        byHalfAPerson();
        denseNone();
        entryByEntry();
        offNone();
        Checks.finish("SurfaceEdgesTest");
    }

    private static ZoneShares map(String old, String fresh, String land, String counts) {
        ZoneShares x = Checks.map(old, fresh, land);
        Checks.counts(x, 0, counts);
        return x;
    }

    private static void surface(ZoneShares x, int group, int row, int column, long numerator, long denominator) {
        String call = "surface(" + group + ", " + row + ", " + column + ", ";
        Checks.due(call + "0)", x.surface(group, row, column, 0), numerator);
        Checks.due(call + "1)", x.surface(group, row, column, 1), denominator);
    }

    private static void byItsWeight() {
        Checks.says("II", "What falls to a CELL exactly: PEOPLE of its OLD ZONE times its WEIGHT by those of all CELLS of the ZONE;");
        ZoneShares x = map("aab/.ba", "..../...".substring(1), "012/301", "a=10,b=7,?=17");
        surface(x, 0, 0, 0, 10, 3);
        surface(x, 0, 1, 1, 7, 2);
        x.weigh(0, 1, 4);
        surface(x, 0, 0, 0, 10, 9);
        surface(x, 0, 0, 1, 40, 9);
        surface(x, 0, 1, 2, 40, 9);
        x.weigh(0, 1, 0);
        surface(x, 0, 0, 0, 10, 1);
        surface(x, 0, 0, 1, 0, 1);
        // another GROUP by its own WEIGHTS and PEOPLE
        Checks.counts(x, 2, "a=9999");
        surface(x, 2, 0, 1, 3333, 1);
        surface(x, 1, 0, 1, 0, 1);
        // with what it has of the UNKNOWN: all twice
        x.settle(1, 1);
        surface(x, 0, 0, 0, 20, 1);
        surface(x, 0, 0, 2, 7, 1);
        // what is in NEW and ROUNDING are none of it
        x.settle(0, 1);
        Checks.layer(x, 1, "abc/def");
        surface(x, 0, 0, 2, 7, 1);
    }

    private static void byCells() {
        Checks.says("II", "are these 0, by CELLS");
        ZoneShares x = map("aab/bba", "aaa/aaa", "012/330", "a=7,b=8");
        x.weigh(0, 0, 0);
        surface(x, 0, 0, 0, 0, 1);
        surface(x, 0, 0, 1, 7, 1);
        x.weigh(0, 1, 0);
        surface(x, 0, 0, 0, 7, 3);
        surface(x, 0, 0, 1, 7, 3);
        surface(x, 0, 1, 2, 7, 3);
        surface(x, 0, 0, 2, 8, 3);
        // b alone by WEIGHTS
        x.weigh(0, 3, 2);
        surface(x, 0, 0, 2, 8, 5);
        surface(x, 0, 1, 0, 16, 5);
        surface(x, 0, 0, 0, 7, 3);
        // the limit: one WEIGHT of 1
        x.weigh(0, 1, 1);
        surface(x, 0, 0, 0, 0, 1);
        surface(x, 0, 0, 1, 7, 1);
    }

    private static void whereNobodyLives() {
        Checks.says("II", "(0 by 1 where . stands).");
        ZoneShares x = map("a.", "ab", "00", "a=5,?=6");
        surface(x, 0, 0, 1, 0, 1);
        x.weigh(0, 0, 9);
        surface(x, 0, 0, 1, 0, 1);
        x.settle(1, 1);
        surface(x, 0, 0, 1, 0, 1);
        surface(x, 0, 0, 0, 11, 1);
        Checks.layer(x, 0, "..");
        surface(x, 0, 0, 0, 0, 1);
    }

    private static void lowestTerms() {
        Checks.says("23", "What of a GROUP falls to a CELL exactly what 0: numerator, 1: denominator, in lowest terms.");
        ZoneShares x = map("aaaaaa", "aaaaaa", "000000", "a=4");
        for (int people : new int[] {0, 1, 2, 3, 4, 6, 8, 9, 12, 9999}) {
            Checks.counts(x, 0, "a=" + people);
            int by = people == 0 ? 6 : people % 6 == 0 ? 6 : people % 3 == 0 ? 3 : people % 2 == 0 ? 2 : 1;
            surface(x, 0, 0, 5, people / by, 6 / by);
        }
        // as great as they can be: 96 CELLS that weigh 9, but one that weighs 8
        StringBuilder all = new StringBuilder("h".repeat(12));
        StringBuilder land = new StringBuilder("0".repeat(12));
        for (int row = 1; row < 8; row++) {
            all.append("/").append("h".repeat(12));
            land.append("/").append("0".repeat(12));
        }
        land.setCharAt(0, '1');
        ZoneShares y = map(all.toString(), all.toString(), land.toString(),
                "a=9999,b=9999,c=9999,d=9999,e=9999,f=9999,g=9999,h=9999,?=9999");
        y.weigh(0, 0, 9);
        y.weigh(0, 1, 8);
        y.settle(1, 1);
        // 89991 by 863 has nothing in common
        surface(y, 0, 7, 11, 89991 * 9, 863);
        surface(y, 0, 0, 0, 89991 * 8, 863);
        Checks.due("share(0, 7, 7, 1)", y.share(0, 7, 7, 1), 1);
        Checks.due("misfit(0, 0)", y.misfit(0, 0), 0);
    }

    private static void surfaceNone() {
        Checks.says("23", "NONE without these, or a whole MAP.");
        ZoneShares x = Looks.told();
        for (int group = -2; group <= 4; group++) {
            for (int row = -2; row <= 3; row++) {
                for (int column = -2; column <= 4; column++) {
                    for (int what = -1; what <= 3; what++) {
                        boolean there = group >= 0 && group <= 2 && row >= 0 && row <= 1 && column >= 0 && column <= 2
                                && what >= 0 && what <= 1;
                        Checks.due("surface(" + group + ", " + row + ", " + column + ", " + what + ")",
                                (x.surface(group, row, column, what) == -1) != there);
                    }
                }
            }
        }
        for (int far : FAR) {
            Checks.due("a GROUP far off", x.surface(far, 0, 0, 0), -1);
            Checks.due("a row far off", x.surface(0, far, 0, 0), -1);
            Checks.due("a column far off", x.surface(0, 0, far, 0), -1);
            Checks.due("a what far off", x.surface(0, 0, 0, far), -1);
        }
    }

    private static void densest(ZoneShares x, int group, int... due) {
        for (int k = 0; k < due.length; k++) {
            Checks.due("densest(" + group + ", " + k + ")", x.densest(group, k), due[k]);
        }
        Checks.due("one behind them", x.densest(group, due.length), -1);
    }

    private static void greatestFirst() {
        Checks.says("24", "The k-th CELL (0 the first) by what falls there of a GROUP exactly, the greatest first,");
        // 4/3, 3/2, 1, 7/5 and nothing
        ZoneShares x = map("aaabb/cdddd/d.eee", "aaaaa/aaaaa/aaaaa", "00000/00000/00000", "a=4,b=3,c=1,d=7");
        densest(x, 0, 3, 4, 13, 14, 15, 16, 24, 0, 1, 2, 12, 25, 26, 27, 28);
        // exactly: 1000/3 and 333, 667/2
        ZoneShares y = map("aaabcc", "aaaaaa", "000000", "a=1000,b=333,c=667");
        densest(y, 0, 4, 5, 0, 1, 2, 3);
        y.weigh(0, 0, 0);
        densest(y, 0, 4, 5, 0, 1, 2, 3);
        // by WEIGHTS of the GROUP
        ZoneShares z = map("aaaa", "aaaa", "0123", "a=10");
        z.weigh(0, 0, 2);
        z.weigh(0, 1, 4);
        z.weigh(0, 2, 3);
        z.weigh(0, 3, 9);
        densest(z, 0, 3, 1, 2, 0);
        densest(z, 1, 0, 1, 2, 3);
        Checks.counts(z, 2, "a=5");
        z.weigh(2, 1, 2);
        densest(z, 2, 1, 0, 2, 3);
    }

    private static void likeOnesByRows() {
        Checks.says("24", "of like ones by rows, then columns:");
        ZoneShares x = map("ab/ba/..", "aa/aa/aa", "00/00/00", "a=2,b=2");
        densest(x, 0, 0, 1, 12, 13, 24, 25);
        Checks.counts(x, 0, "a=1,b=2");
        densest(x, 0, 1, 12, 0, 13, 24, 25);
        // like ones by other fractions: 2 by 2 and 1 by 1, and 3 by 3
        ZoneShares y = map("cccbba", "aaaaaa", "000000", "a=1,b=2,c=3");
        densest(y, 0, 0, 1, 2, 3, 4, 5);
        // nobody: nothing everywhere, where . stands, too
        densest(y, 1, 0, 1, 2, 3, 4, 5);
        ZoneShares z = map(".a.a", "aaaa", "0000", "");
        densest(z, 0, 0, 1, 2, 3);
        Checks.counts(z, 0, "a=1");
        densest(z, 0, 1, 3, 0, 2);
    }

    private static void twelveByTheRow() {
        Checks.says("24", "12 by the row, and the column;");
        StringBuilder all = new StringBuilder("abcdefghabcd");
        for (int row = 1; row < 8; row++) {
            all.append("/efghabcdefgh");
        }
        ZoneShares x = map(all.toString(), all.toString(), all.toString().replaceAll("[a-h]", "0"), "");
        for (int k = 0; k < 96; k++) {
            Checks.due("densest(0, " + k + ")", x.densest(0, k), k);
        }
        Checks.due("densest(0, 96)", x.densest(0, 96), -1);
        for (int columns = 1; columns <= 12; columns++) {
            String row = "a".repeat(columns);
            String land = "0".repeat(columns);
            ZoneShares y = map(row + "/" + row.replace('a', 'b'), row + "/" + row, land + "/" + land, "b=5");
            Checks.due("the first of " + columns, y.densest(0, 0), 12);
            Checks.due("the last of the second row", y.densest(0, columns - 1), 12 + columns - 1);
            Checks.due("then the first row", y.densest(0, columns), 0);
            Checks.due("the last", y.densest(0, 2 * columns - 1), columns - 1);
            Checks.due("one behind it", y.densest(0, 2 * columns), -1);
        }
    }

    private static void densestNone() {
        Checks.says("24", "NONE without these, or a whole MAP.");
        ZoneShares x = Looks.told();
        for (int group = -2; group <= 4; group++) {
            for (int k = -3; k <= 9; k++) {
                boolean there = group >= 0 && group <= 2 && k >= 0 && k <= 5;
                Checks.due("densest(" + group + ", " + k + ")", (x.densest(group, k) == -1) != there);
            }
        }
        for (int far : FAR) {
            Checks.due("a GROUP far off", x.densest(far, 0), -1);
            Checks.due("a CELL far off", x.densest(0, far), -1);
        }
    }

    private static void dense(ZoneShares x, int group, int zone, double density) {
        String call = "dense(" + group + ", " + zone + ", ";
        Checks.due(call + "0)", x.dense(group, zone, 0), Double.doubleToLongBits(density));
        Checks.due(call + "1)", x.dense(group, zone, 1), Float.floatToIntBits((float) density));
        Checks.due(call + "2)", x.dense(group, zone, 2), Double.doubleToLongBits(density % 1));
        Checks.due(call + "3)", x.dense(group, zone, 3), (long) Math.floor(density / 0.5));
    }

    private static void peopleByCells() {
        Checks.says("II", "DENSITY: people MOVED there by CELLS of the ZONE, as double.");
        // all CELLS of the NEW ZONE: of other OLD ZONES and of nobody, too
        ZoneShares x = map("aab..a", "cccccd", "000000", "a=10,b=3,?=4");
        // 2/3 of 10 and 3: 7 and 3
        dense(x, 0, 2, 10 / 5.0);
        dense(x, 0, 3, 3.0);
        x.settle(1, 1);
        // 13 and 4: 9 and 4
        dense(x, 0, 2, 13 / 5.0);
        dense(x, 0, 3, 4.0);
        // whole people are MOVED, by WEIGHTS and ROUNDING
        x.weigh(0, 0, 0);
        dense(x, 0, 2, 13 / 5.0);
        dense(x, 1, 2, 0.0);
        ZoneShares y = map("aabb", "cdcd", "0000", "a=1,b=1");
        dense(y, 0, 2, 1.0);
        y.settle(0, 1);
        dense(y, 0, 2, 0.5);
        dense(y, 0, 3, 0.5);
    }

    private static void asBits() {
        Checks.says("25", "DENSITY of a NEW ZONE (0 to 7) for a GROUP what 0: as doubleToLongBits,");
        ZoneShares x = Checks.map("abcdefgh", "abcdefgh", "00000000");
        Checks.counts(x, 1, "a=0,b=1,c=2,d=3,e=9998,f=9999,g=4096,h=8191");
        int[] people = {0, 1, 2, 3, 9998, 9999, 4096, 8191};
        for (int zone = 0; zone < 8; zone++) {
            dense(x, 1, zone, people[zone]);
            dense(x, 0, zone, 0);
        }
        // every number of CELLS
        for (int cells = 1; cells <= 12; cells++) {
            String row = "h".repeat(cells);
            ZoneShares y = Checks.map(row, row, "0".repeat(cells));
            for (int some : new int[] {0, 1, 2, 3, 5, 7, 11, 64, 997, 1023, 1024, 1025, 9999}) {
                Checks.counts(y, 0, "h=" + some);
                dense(y, 0, 7, (double) some / cells);
            }
        }
        // the least and the greatest that can be: 1 by 96, and 89991 by 1
        StringBuilder all = new StringBuilder("a".repeat(12));
        for (int row = 1; row < 8; row++) {
            all.append("/").append("a".repeat(12));
        }
        ZoneShares z = map(all.toString(), all.toString(), all.toString().replace('a', '3'), "a=1");
        dense(z, 0, 0, 1 / 96.0);
        ZoneShares w = map("a", "a", "0", "a=9999,b=9999,c=9999,d=9999,e=9999,f=9999,g=9999,h=9999,?=9999");
        w.settle(1, 1);
        dense(w, 0, 0, 89991);
    }

    private static void asFloat() {
        Checks.says("25", "1: that as float, floatToIntBits,");
        ZoneShares x = map("aaa", "aaa", "000", "a=1");
        Checks.due("a third", x.dense(0, 0, 1), 0x3EAAAAABL);
        Checks.counts(x, 0, "a=2");
        Checks.due("two thirds", x.dense(0, 0, 1), 0x3F2AAAABL);
        Checks.counts(x, 0, "a=3");
        Checks.due("one", x.dense(0, 0, 1), 0x3F800000L);
        Checks.counts(x, 0, "");
        Checks.due("nothing", x.dense(0, 0, 1), 0);
    }

    private static void remainderByOne() {
        Checks.says("25", "2: its remainder by 1, as doubleToLongBits,");
        ZoneShares x = map("aaaa", "aaaa", "0000", "a=7");
        Checks.due("3 quarters", x.dense(0, 0, 2), 0x3FE8000000000000L);
        Checks.counts(x, 0, "a=8");
        Checks.due("none", x.dense(0, 0, 2), 0);
        Checks.counts(x, 0, "a=9");
        Checks.due("a quarter", x.dense(0, 0, 2), 0x3FD0000000000000L);
        Checks.counts(x, 0, "a=3");
        Checks.due("all of it", x.dense(0, 0, 2), 0x3FE8000000000000L);
        // a rest that no double is: the remainder of the double, not of the fraction
        ZoneShares y = map("aaa", "aaa", "000", "a=10");
        Checks.due("of 10 by 3", y.dense(0, 0, 2), Double.doubleToLongBits(10 / 3.0 - 3.0));
        Checks.due("not a third", y.dense(0, 0, 2) != Double.doubleToLongBits(1 / 3.0));
    }

    private static void byHalfAPerson() {
        Checks.says("25", "3: by half a person, downwards, as a number.");
        ZoneShares x = map("aaaa", "aaaa", "0000", "");
        for (int people = 0; people <= 40; people++) {
            Checks.counts(x, 0, "a=" + people);
            Checks.due("halves of " + people + " by 4", x.dense(0, 0, 3), people / 2);
        }
        ZoneShares y = map("a", "a", "0", "a=9999");
        Checks.due("halves of 9999", y.dense(0, 0, 3), 19998);
    }

    private static void denseNone() {
        Checks.says("25", "Long.MIN_VALUE without these, a CELL of it, or a whole MAP.");
        // a, c and h have CELLS
        ZoneShares x = map("ab./.ba", "ac./hhh", "000/000", "a=5,b=6,e=7");
        for (int group = -2; group <= 4; group++) {
            for (int zone = -2; zone <= 10; zone++) {
                for (int what = -2; what <= 5; what++) {
                    boolean there = group >= 0 && group <= 2 && (zone == 0 || zone == 2 || zone == 7)
                            && what >= 0 && what <= 3;
                    Checks.due("dense(" + group + ", " + zone + ", " + what + ")",
                            (x.dense(group, zone, what) == Long.MIN_VALUE) != there);
                }
            }
        }
        for (int far : FAR) {
            Checks.due("a GROUP far off", x.dense(far, 0, 0), Long.MIN_VALUE);
            Checks.due("a NEW ZONE far off", x.dense(0, far, 0), Long.MIN_VALUE);
            Checks.due("a what far off", x.dense(0, 0, far), Long.MIN_VALUE);
        }
    }

    private static void off(ZoneShares x, int group, double... each) {
        double sum = 0;
        for (double one : each) {
            sum += one;
        }
        Checks.due("off(" + group + ")", x.off(group), Double.doubleToLongBits(sum));
    }

    private static void entryByEntry() {
        Checks.says("26", "How much all that are MOVED of a GROUP are off what would be exactly, entry by entry, together, as doubleToLongBits.");
        ZoneShares x = map("aabb", "abab", "0000", "a=1,b=1,?=2");
        off(x, 0, 0.5, 0.5, 0.5, 0.5);
        off(x, 1);
        // OUT too
        Checks.layer(x, 1, "a.b.");
        off(x, 0, 0.5, 0.5, 0.5, 0.5);
        // with what they have of the UNKNOWN: 2 each
        x.settle(1, 1);
        off(x, 0);
        x.settle(1, 0);
        // 1/4 and 3/4: by REMAINDERS a quarter off each, BALANCED three
        ZoneShares y = map("aa", "ab", "01", "a=1");
        y.weigh(0, 1, 3);
        off(y, 0, 0.25, 0.25);
        y.settle(0, 1);
        off(y, 0, 0.75, 0.75);
        // 3/8, 9/8 and 12/8 of 3: 0, 1 and 2
        ZoneShares z = map("aaa", "abc", "012", "a=3");
        z.weigh(0, 1, 3);
        z.weigh(0, 2, 4);
        off(z, 0, 0.375, 0.125, 0.5);
        // whole ones are not off
        Checks.counts(z, 0, "a=8");
        off(z, 0);
        Checks.layer(z, 0, "...");
        off(z, 0);
    }

    private static void offNone() {
        Checks.says("26", "Long.MIN_VALUE without that GROUP, or a whole MAP.");
        ZoneShares x = Looks.told();
        for (int group = -2; group <= 5; group++) {
            Checks.due("off(" + group + ")", (x.off(group) == Long.MIN_VALUE) != (group >= 0 && group <= 2));
        }
        for (int far : FAR) {
            Checks.due("a GROUP far off", x.off(far), Long.MIN_VALUE);
        }
    }
}
