/** Promises 23 to 26: what falls to a cell, the densest, densities, and how far off all is. */
public final class SurfaceTest {
    public static void main(String[] args) {
        surfaces();
        densest();
        densities();
        off();
        withoutThese();
        Checks.finish("SurfaceTest");
    }

    private static void surface(ZoneShares x, int row, int column, long numerator, long denominator) {
        Checks.due("surface(0, " + row + ", " + column + ", 0)", x.surface(0, row, column, 0), numerator);
        Checks.due("surface(0, " + row + ", " + column + ", 1)", x.surface(0, row, column, 1), denominator);
    }

    private static void surfaces() {
        ZoneShares x = Checks.map("aab/a.b", ".../abc", "012/301");
        Checks.counts(x, 0, "a=10,b=7,?=3");
        surface(x, 0, 0, 10, 3);
        surface(x, 0, 2, 7, 2);
        surface(x, 1, 1, 0, 1);
        x.weigh(0, 3, 8);
        surface(x, 0, 0, 1, 1);
        surface(x, 1, 0, 8, 1);
        x.weigh(0, 2, 0);
        surface(x, 0, 2, 0, 1);
        surface(x, 1, 2, 7, 1);
        x.weigh(0, 1, 0);
        // none of b weighs: by CELLS; of a still by WEIGHTS
        surface(x, 0, 2, 7, 2);
        surface(x, 1, 2, 7, 2);
        surface(x, 0, 1, 0, 1);
        surface(x, 0, 0, 10, 9);
        x.settle(1, 1);
        surface(x, 0, 2, 4, 1);
        Checks.due("surface of nobody", x.surface(1, 0, 0, 1), 1);
        Checks.due("surface of nobody", x.surface(1, 0, 0, 0), 0);
    }

    private static void densest() {
        ZoneShares x = Checks.map("aab/a.b/ccc", "aaa/aaa/aaa", "012/301/000");
        Checks.counts(x, 0, "a=9,b=7,c=9");
        int[] due = {2, 14, 0, 1, 12, 24, 25, 26, 13};
        for (int k = 0; k < due.length; k++) {
            Checks.due("densest(0, " + k + ")", x.densest(0, k), due[k]);
        }
        Checks.due("densest(0, 9)", x.densest(0, 9), -1);
        Checks.due("densest(0, -1)", x.densest(0, -1), -1);
        Checks.due("densest(0, most)", x.densest(0, Integer.MAX_VALUE), -1);
        x.weigh(0, 3, 9);
        Checks.due("densest(0, 0)", x.densest(0, 0), 12);
        Checks.due("densest(0, 1)", x.densest(0, 1), 2);
        Checks.due("of nobody by rows, then columns", x.densest(1, 4), 13);
        Checks.counts(x, 0, "b=1");
        Checks.due("densest(0, 0)", x.densest(0, 0), 2);
        Checks.due("densest(0, 2)", x.densest(0, 2), 0);
        x.undo();
        x.undo();
        Checks.due("densest(0, 0)", x.densest(0, 0), 2);
    }

    private static void dense(ZoneShares x, int zone, double density) {
        Checks.due("dense(0, " + zone + ", 0)", x.dense(0, zone, 0), Double.doubleToLongBits(density));
        Checks.due("dense(0, " + zone + ", 1)", x.dense(0, zone, 1), Float.floatToIntBits((float) density));
        Checks.due("dense(0, " + zone + ", 2)", x.dense(0, zone, 2), Double.doubleToLongBits(density % 1.0));
        Checks.due("dense(0, " + zone + ", 3)", x.dense(0, zone, 3), (long) Math.floor(density / 0.5));
    }

    private static void densities() {
        ZoneShares x = Checks.map("aab..", "aab.c", "00000");
        Checks.counts(x, 0, "a=7,b=9999");
        dense(x, 0, 3.5);
        dense(x, 1, 9999);
        dense(x, 2, 0);
        Checks.due("no CELL of d", x.dense(0, 3, 0), Long.MIN_VALUE);
        Checks.due("what falls OUT has none", x.dense(0, 8, 0), Long.MIN_VALUE);
        // CELLS where nobody lived count, too
        Checks.layer(x, 1, "aabaa");
        dense(x, 0, 7 / 4.0);
        for (int people = 0; people < 200; people++) {
            ZoneShares y = Checks.map("aaaaaaaaaaa", "aaaaaaaaaaa", "00000000000");
            Checks.counts(y, 0, "a=" + people * 50);
            dense(y, 0, people * 50 / 11.0);
        }
    }

    private static void off(ZoneShares x, double... each) {
        double sum = 0;
        for (double one : each) {
            sum += one;
        }
        Checks.due("off(0)", x.off(0), Double.doubleToLongBits(sum));
    }

    private static void off() {
        ZoneShares x = Checks.map("aaab", "abcd", "0000");
        off(x, 0);
        Checks.counts(x, 0, "a=9,b=5");
        off(x, 0);
        Checks.counts(x, 0, "a=10,b=5");
        off(x, 2 / 3.0, 1 / 3.0, 1 / 3.0);
        Checks.layer(x, 1, "a..d");
        off(x, 1 / 3.0, 1 / 3.0);
        ZoneShares y = Checks.map("aabb", "abab", "0000");
        Checks.counts(y, 0, "a=1,b=1");
        off(y, 0.5, 0.5, 0.5, 0.5);
        // entry by entry, not ZONE by ZONE
        y.settle(0, 1);
        off(y, 0.5, 0.5, 0.5, 0.5);
        y.weigh(0, 0, 0);
        off(y, 0.5, 0.5, 0.5, 0.5);
        // 3/7, 9/7 and 9/7 of a: 1 each; a half and 3 halves of b: 1 each
        ZoneShares z = Checks.map("aaabb", "abcab", "01101");
        z.weigh(0, 1, 3);
        Checks.counts(z, 0, "a=3,b=2");
        off(z, 4 / 7.0, 2 / 7.0, 2 / 7.0, 0.5, 0.5);
    }

    private static void withoutThese() {
        ZoneShares x = Checks.map("ab", "ab", "00");
        for (int group : new int[] {-1, 3, Integer.MAX_VALUE}) {
            Checks.due("surface", x.surface(group, 0, 0, 0), -1);
            Checks.due("densest", x.densest(group, 0), -1);
            Checks.due("dense", x.dense(group, 0, 0), Long.MIN_VALUE);
            Checks.due("off", x.off(group), Long.MIN_VALUE);
        }
        Checks.due("surface(0, 1, 0, 0)", x.surface(0, 1, 0, 0), -1);
        Checks.due("surface(0, -1, 0, 0)", x.surface(0, -1, 0, 0), -1);
        Checks.due("surface(0, 0, 2, 0)", x.surface(0, 0, 2, 0), -1);
        Checks.due("surface(0, 0, -1, 0)", x.surface(0, 0, -1, 0), -1);
        Checks.due("surface(0, 0, 0, 2)", x.surface(0, 0, 0, 2), -1);
        Checks.due("surface(0, 0, 0, -1)", x.surface(0, 0, 0, -1), -1);
        Checks.due("dense(0, -1, 0)", x.dense(0, -1, 0), Long.MIN_VALUE);
        Checks.due("dense(0, 0, 4)", x.dense(0, 0, 4), Long.MIN_VALUE);
        Checks.due("dense(0, 0, -1)", x.dense(0, 0, -1), Long.MIN_VALUE);
        Checks.layer(x, 0, "a");
        Checks.due("surface", x.surface(0, 0, 0, 0), -1);
        Checks.due("densest", x.densest(0, 0), -1);
        Checks.due("dense", x.dense(0, 0, 0), Long.MIN_VALUE);
        Checks.due("off", x.off(0), Long.MIN_VALUE);
    }
}
