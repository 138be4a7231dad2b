import java.util.Random;

/**
 * Each sentence of ROUNDING BALANCED in the Terms, on many small maps: the table is compared with
 * the first one that is found when all are tried in turn.
 */
public final class BalancedTest {
    private static final int COLUMNS = 9;

    private final String old;
    private final String fresh;
    private final String land;
    private final int[] people;
    private final int[] weights;

    private BalancedTest(String old, String fresh, String land, int[] people, int[] weights) {
        this.old = old;
        this.fresh = fresh;
        this.land = land;
        this.people = people;
        this.weights = weights;
    }

    public static void main(String[] args) {
        byHand();
        threeByThree();
        manyZones();
        manyColumns();
        byWeights();
        byWeightsThatAreNone();
        fourByFour();
        greatDenominators();
        Checks.finish("BalancedTest");
    }

    private static void threeByThree() {
        String[] rows = new String[20];
        int found = 0;
        for (int k = 0; k < 64; k++) {
            int a = k / 16;
            int b = k / 4 % 4;
            int c = k % 4;
            if (a <= b && b <= c) {
                rows[found] = "" + "ab.h".charAt(a) + "ab.h".charAt(b) + "ab.h".charAt(c);
                found++;
            }
        }
        int[][] people = {{1, 1, 1}, {1, 2, 1}, {2, 1, 2}, {2, 2, 2}, {4, 5, 7}, {1, 0, 2}};
        for (int k = 0; k < 8000; k++) {
            String fresh = rows[k / 400] + "/" + rows[k / 20 % 20] + "/" + rows[k % 20];
            new BalancedTest("aaa/bbb/ccc", fresh, "000/000/000", people[k % 6], new int[] {1, 1, 1, 1}).check();
        }
    }

    private static void manyZones() {
        String two = "ab.";
        for (int k = 0; k < 120; k++) {
            StringBuilder fresh = new StringBuilder();
            StringBuilder more = new StringBuilder();
            for (int zone = 0; zone < 8; zone++) {
                int mixed = (k * 37 + zone * (k % 7 + 1) * 5) % 6;
                fresh.append(two.charAt(mixed % 3));
                more.append(two.charAt((mixed % 3 + mixed / 3 + 1) % 3));
            }
            int[] people = {1 + k % 3, 3, 1, 2 + k % 4, 5, 1, 1 + k % 2, 7};
            new BalancedTest("abcdefgh/abcdefgh", fresh + "/" + more, "00000000/00000000", people,
                    new int[] {1, 1, 1, 1}).check();
        }
    }

    private static void manyColumns() {
        String[] orders = {"abcdefgh./.hgfedcba", "hgfedcba./abcdefgh.", "aabbccdd./ddccbbaa.", "abcd.abcd/bcda.dcba"};
        for (String fresh : orders) {
            for (int a = 1; a < 9; a += 2) {
                new BalancedTest("aaaaaaaaa/hhhhhhhhh", fresh, "000000000/000000000",
                        new int[] {a, 0, 0, 0, 0, 0, 0, 10 - a}, new int[] {1, 1, 1, 1}).check();
            }
        }
    }

    private static void byWeights() {
        for (int k = 0; k < 600; k++) {
            int[] weights = {k % 10, k * 7 % 10, k / 3 % 10, (k + 5) * 3 % 10};
            int[] people = {k % 11, k * 3 % 13, k % 5 + 1, k % 4};
            String[] fresh = {"abc/ab./bc./abc", "bab/aab/.ab/cab", "ah./ha./.ah/hhh"};
            new BalancedTest("aaa/bbb/ccc/ddd", fresh[k % 3], "012/123/230/301", people, weights).check();
        }
    }

    private static void byWeightsThatAreNone() {
        for (int k = 0; k < 50; k++) {
            new BalancedTest("aaa/bbb", "ab./.ab", "001/221", new int[] {k, 2 * k + 1}, new int[] {0, k % 2, 0, 5}).check();
        }
    }

    private static void fourByFour() {
        Random random = new Random(4);
        for (int k = 0; k < 1500; k++) {
            StringBuilder fresh = new StringBuilder();
            StringBuilder land = new StringBuilder();
            for (int cell = 0; cell < 16; cell++) {
                fresh.append(cell > 0 && cell % 4 == 0 ? "/" : "").append("abc.".charAt(random.nextInt(4)));
                land.append(cell > 0 && cell % 4 == 0 ? "/" : "").append(random.nextInt(4));
            }
            int[] people = {random.nextInt(9), random.nextInt(9), random.nextInt(9), random.nextInt(9)};
            int[] weights = {random.nextInt(10), random.nextInt(10), random.nextInt(10), random.nextInt(10)};
            new BalancedTest("aaaa/bbbb/cccc/dddd", fresh.toString(), land.toString(), people, weights).check();
        }
    }

    private static void greatDenominators() {
        // 108, 107, 103, 99, 95, 92, 84 and 98 have a common denominator of some 50 bits
        String old = "aaaaaaaaaaaa/bbbbbbbbbbbb/cccccccccccc/dddddddddddd/eeeeeeeeeeee/ffffffffffff/gggggggggggg/hhhhhhhhhhhh";
        String land = "000000000000/000000000001/000000000002/000000000013/"
                + "000000000023/000000000033/000000000333/000000000113";
        for (int inA = 1; inA < 12; inA++) {
            String row = "a".repeat(inA) + ".".repeat(12 - inA);
            new BalancedTest(old, (row + "/").repeat(7) + row, land,
                    new int[] {9999, 9998, 9997, 9999, 1, 9995, 9999, 7777}, new int[] {9, 8, 4, 1}).check();
        }
    }

    private ZoneShares made() {
        ZoneShares x = Checks.map(old, fresh, land);
        StringBuilder counts = new StringBuilder();
        for (int zone = 0; zone < people.length; zone++) {
            counts.append(zone > 0 ? "," : "").append((char) ('a' + zone)).append('=').append(people[zone]);
        }
        Checks.counts(x, 0, counts.toString());
        for (int k = 0; k < 4; k++) {
            x.weigh(0, k, weights[k]);
        }
        x.settle(0, 1);
        return x;
    }

    private void check() {
        ZoneShares x = made();
        int rows = people.length;
        long[][] parts = new long[rows][COLUMNS];
        long[] all = new long[rows];
        for (int row = 0; row < rows; row++) {
            all[row] = fill(parts[row], row, true);
            if (all[row] == 0) {
                all[row] = Math.max(1, fill(parts[row], row, false));
            }
        }
        long[][] given = new long[rows][COLUMNS];
        for (int row = 0; row < rows; row++) {
            for (int column = 0; column < COLUMNS; column++) {
                given[row][column] = x.moved(0, row, column);
            }
        }
        String map = fresh + " of " + old;
        eachEntry(map, given, parts, all);
        rowsAndColumns(map, x, given);
        theFirst(map, x, given, parts, all);
    }

    /** What the CELLS of a ZONE weigh, or how many they are, by the NEW ZONES: all of them together. */
    private long fill(long[] parts, int row, boolean byWeights) {
        long sum = 0;
        for (int k = 0; k < old.length(); k++) {
            if (old.charAt(k) == 'a' + row) {
                int column = fresh.charAt(k) == '.' ? 8 : fresh.charAt(k) - 'a';
                int weight = byWeights ? weights[land.charAt(k) - '0'] : 1;
                parts[column] += weight;
                sum += weight;
            }
        }
        return sum;
    }

    private void eachEntry(String map, long[][] given, long[][] parts, long[] all) {
        Checks.says("II", "ROUNDING 1 BALANCED: each entry (OLD ZONE, NEW ZONE or OUT) is what falls there, rounded down, or, if there was a rest, one more;");
        boolean right = true;
        for (int row = 0; row < people.length; row++) {
            for (int column = 0; column < COLUMNS; column++) {
                long falls = people[row] * parts[row][column];
                long over = given[row][column] - falls / all[row];
                right = right && (over == 0 || over == 1 && falls % all[row] > 0);
            }
        }
        Checks.due("each entry of " + map, right);
    }

    private void rowsAndColumns(String map, ZoneShares x, long[][] given) {
        Checks.says("II", "all PEOPLE of an OLD ZONE are MOVED;");
        for (int row = 0; row < people.length; row++) {
            long sum = 0;
            for (long entry : given[row]) {
                sum += entry;
            }
            Checks.due("all of " + row + " in " + map, sum, people[row]);
        }
        Checks.says("II", "what comes to each NEW ZONE (OUT too) from all is what falls there exactly from all, together, rounded down or, if there is a rest, one more.");
        for (int column = 0; column < COLUMNS; column++) {
            long over = x.moved(0, -1, column) - x.exact(0, column, 0);
            Checks.due("what comes to " + column + " in " + map,
                    over == 0 || over == 1 && x.exact(0, column, 1) > 0);
        }
    }

    private void theFirst(String map, ZoneShares x, long[][] given, long[][] parts, long[] all) {
        Checks.says("II", "There are always such tables: of these the first, entry by entry (OLD by OLD, then NEW by NEW, OUT last): one more goes ahead of none.");
        int rows = people.length;
        long[] least = new long[COLUMNS];
        long[] most = new long[COLUMNS];
        for (int column = 0; column < COLUMNS; column++) {
            least[column] = x.exact(0, column, 0);
            most[column] = least[column] + (x.exact(0, column, 1) > 0 ? 1 : 0);
        }
        int[] at = new int[rows * COLUMNS];
        int rests = 0;
        long[] rowLeft = new long[rows];
        long[] come = new long[COLUMNS];
        long asGiven = 0;
        for (int row = 0; row < rows; row++) {
            rowLeft[row] = people[row];
            for (int column = 0; column < COLUMNS; column++) {
                long falls = people[row] * parts[row][column];
                rowLeft[row] -= falls / all[row];
                come[column] += falls / all[row];
                if (falls % all[row] > 0) {
                    at[rests] = row * COLUMNS + column;
                    asGiven = asGiven * 2 + given[row][column] - falls / all[row];
                    rests++;
                }
            }
        }
        for (long bits = (1L << rests) - 1; bits >= 0; bits--) {
            if (rowsFit(bits, at, rests, rowLeft) && columnsFit(bits, at, rests, come, least, most)) {
                Checks.due("the first table of " + map, asGiven, bits);
                return;
            }
        }
        Checks.due("a table of " + map, false);
    }

    /** Whether the rows come out right with one more where a bit is, the first entry's the highest. */
    private static boolean rowsFit(long bits, int[] at, int rests, long[] rowLeft) {
        long[] left = rowLeft.clone();
        for (int k = 0; k < rests; k++) {
            left[at[k] / COLUMNS] -= bits >> (rests - 1 - k) & 1;
        }
        for (long each : left) {
            if (each != 0) {
                return false;
            }
        }
        return true;
    }

    private static boolean columnsFit(long bits, int[] at, int rests, long[] come, long[] least, long[] most) {
        long[] has = come.clone();
        for (int k = 0; k < rests; k++) {
            has[at[k] % COLUMNS] += bits >> (rests - 1 - k) & 1;
        }
        for (int column = 0; column < COLUMNS; column++) {
            if (has[column] < least[column] || has[column] > most[column]) {
                return false;
            }
        }
        return true;
    }

    private static void moved(ZoneShares x, int old, String due) {
        StringBuilder seen = new StringBuilder();
        for (int zone = 0; zone <= 8; zone++) {
            seen.append(zone > 0 ? " " : "").append(x.moved(0, old, zone));
        }
        Checks.due("from " + old + " are moved " + seen + ", due are " + due, seen.toString().equals(due));
    }

    private static void byHand() {
        // no rests: as by REMAINDERS
        ZoneShares x = new BalancedTest("aabb", "abab", "0000", new int[] {4, 6}, new int[] {1, 1, 1, 1}).made();
        moved(x, 0, "2 2 0 0 0 0 0 0 0");
        moved(x, 1, "3 3 0 0 0 0 0 0 0");
        // three halves each: the first takes one more in a, so that of b there is none in a
        x = new BalancedTest("aabb", "abab", "0000", new int[] {1, 1}, new int[] {1, 1, 1, 1}).made();
        moved(x, 0, "1 0 0 0 0 0 0 0 0");
        moved(x, 1, "0 1 0 0 0 0 0 0 0");
        // OUT too comes out right: just 1 of three thirds
        x = new BalancedTest("aaabbbccc", "ab.ab.ab.", "000000000", new int[] {1, 1, 1}, new int[] {1, 1, 1, 1}).made();
        moved(x, 0, "1 0 0 0 0 0 0 0 0");
        moved(x, 1, "0 1 0 0 0 0 0 0 0");
        moved(x, 2, "0 0 0 0 0 0 0 0 1");
        // not where the rest is greatest: 1 by 1 and 9 of 10
        x = new BalancedTest("aa", "ab", "01", new int[] {1}, new int[] {1, 9, 1, 1}).made();
        moved(x, 0, "1 0 0 0 0 0 0 0 0");
        // to c come 4/7 and 3/7, just 1, and to d 9/7, 1 at least: so that a gives one to c, not to b
        x = new BalancedTest("aaaabbbb", "acbdaccd", "23212031", new int[] {2, 1}, new int[] {1, 3, 1, 2}).made();
        moved(x, 0, "1 0 1 0 0 0 0 0 0");
        moved(x, 1, "0 0 0 1 0 0 0 0 0");
        // from all 1.8 come to b: 1 at least, so that only one can take the one more in a
        x = new BalancedTest("aabb", "abab", "0101", new int[] {1, 1}, new int[] {1, 9, 1, 1}).made();
        moved(x, 0, "1 0 0 0 0 0 0 0 0");
        moved(x, 1, "0 1 0 0 0 0 0 0 0");
    }
}
