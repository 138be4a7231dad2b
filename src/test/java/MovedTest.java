/** Promises 16, 17, 18, 20, 21 and 22: people moved, coarsely, by way of districts, and back. */
public final class MovedTest {
    public static void main(String[] args) {
        byRemainders();
        balanced();
        balancedIsTheFirst();
        sums();
        exactly();
        byDistricts();
        byWayOfDistricts();
        byWayByCellsAndBalanced();
        andBack();
        withoutThese();
        Checks.finish("MovedTest");
    }

    private static void moved(ZoneShares x, int old, String due) {
        String[] numbers = due.split(" ");
        for (int zone = 0; zone < numbers.length; zone++) {
            Checks.due("moved(0, " + old + ", " + zone + ")", x.moved(0, old, zone),
                    Integer.parseInt(numbers[zone]));
        }
    }

    private static void byRemainders() {
        ZoneShares x = Checks.map("aaa", "abc", "012");
        Checks.counts(x, 0, "a=10");
        moved(x, 0, "4 3 3 0 0 0 0 0 0");
        Checks.counts(x, 0, "a=11");
        moved(x, 0, "4 4 3 0 0 0 0 0 0");
        // 11 by 1, 1 and 3 of 5: 2 and 1 over, 2 and 1, 6 and 3
        x.weigh(0, 2, 3);
        moved(x, 0, "2 2 7 0 0 0 0 0 0");
        x.weigh(0, 0, 0);
        moved(x, 0, "0 3 8 0 0 0 0 0 0");
        Checks.layer(x, 1, ".b.");
        x.weigh(-1, 0, 1);
        x.weigh(0, 2, 0);
        // 11 halves: to b ahead of OUT
        moved(x, 0, "0 6 0 0 0 0 0 0 5");
    }

    private static void balanced() {
        ZoneShares x = Checks.map("aabb", "abab", "0000");
        Checks.counts(x, 0, "a=1,b=1");
        moved(x, 0, "1 0");
        moved(x, 1, "1 0");
        x.settle(0, 1);
        // a of NEW has 1 exactly, and so has b
        moved(x, 0, "1 0 0 0 0 0 0 0 0");
        moved(x, 1, "0 1 0 0 0 0 0 0 0");
        Checks.counts(x, 0, "a=1,b=2");
        // 3 halves each: 1 or 2; one more goes ahead of none
        moved(x, 0, "1 0");
        moved(x, 1, "1 1");
        Checks.layer(x, 1, "a.a.");
        Checks.counts(x, 0, "a=3,b=5");
        moved(x, 0, "2 0 0 0 0 0 0 0 1");
        moved(x, 1, "2 0 0 0 0 0 0 0 3");
    }

    private static void balancedIsTheFirst() {
        // thirds: each OLD ZONE gives one of three, each NEW one gets just 1 of them
        ZoneShares x = Checks.map("aaa/bbb/ccc", "abc/abc/abc", "000/000/000");
        Checks.counts(x, 0, "a=1,b=1,c=1");
        x.settle(0, 1);
        moved(x, 0, "1 0 0");
        moved(x, 1, "0 1 0");
        moved(x, 2, "0 0 1");
        x = Checks.map("aabbc/ddddc", "abaca/aabba", "00000/00000");
        Checks.counts(x, 0, "a=1,b=1,c=1,d=2");
        x.settle(0, 1);
        // a: 1/2 1/2, b: 1/2 to a and c, c: 1 to a, d: 1 and 1; so a has 3, b 3/2, c 1/2
        moved(x, 0, "1 0 0");
        moved(x, 1, "0 0 1");
        moved(x, 2, "1 0 0");
        moved(x, 3, "1 1 0");
    }

    private static void sums() {
        ZoneShares x = Checks.map("aab/abb", "aba/cb.", "012/001");
        Checks.counts(x, 0, "a=10,b=7,?=5");
        Checks.counts(x, 1, "b=2");
        Checks.due("moved(0, -1, -1)", x.moved(0, -1, -1), 17);
        Checks.due("moved(0, -1, 0)", x.moved(0, -1, 0), 7);
        Checks.due("moved(0, 1, -1)", x.moved(0, 1, -1), 7);
        Checks.due("moved(0, -1, 8)", x.moved(0, -1, 8), 2);
        Checks.due("moved(1, -1, -1)", x.moved(1, -1, -1), 2);
        Checks.due("moved(1, 0, -1)", x.moved(1, 0, -1), 0);
        Checks.due("moved(0, 7, 0)", x.moved(0, 7, 0), 0);
        ZoneShares y = Checks.map("ahhh", "hh.h", "0000");
        Checks.counts(y, 0, "a=4,h=7");
        Checks.due("moved(0, -1, 7)", y.moved(0, -1, 7), 4 + 5);
        Checks.due("moved(0, -1, 8)", y.moved(0, -1, 8), 2);
        Checks.due("moved(0, 7, 7)", y.moved(0, 7, 7), 5);
        Checks.due("returned(0, 7)", y.returned(0, 7), 6);
        Checks.due("astray(0)", y.astray(0), 1 + 1);
        Checks.due("coarse(0, 0, 1)", y.coarse(0, 0, 1), 9);
        Checks.due("byWay(0, 7)", y.byWay(0, 7), 9);
        Checks.due("moved(0, 0, 7)", x.moved(0, 0, 7), 0);
    }

    private static void exact(ZoneShares x, int zone, long whole, long numerator, long denominator) {
        Checks.due("exact(0, " + zone + ", 0)", x.exact(0, zone, 0), whole);
        Checks.due("exact(0, " + zone + ", 1)", x.exact(0, zone, 1), numerator);
        Checks.due("exact(0, " + zone + ", 2)", x.exact(0, zone, 2), denominator);
    }

    private static void exactly() {
        ZoneShares x = Checks.map("aab/abb", "aba/cb.", "012/001");
        Checks.counts(x, 0, "a=10,b=7,?=5");
        exact(x, 0, 5, 2, 3);
        exact(x, 1, 5, 2, 3);
        exact(x, 2, 3, 1, 3);
        exact(x, 8, 2, 1, 3);
        exact(x, 5, 0, 0, 1);
        x.settle(0, 1);
        exact(x, 0, 5, 2, 3);
        Checks.counts(x, 0, "a=4,b=5");
        // 4/3 and 5/3 are whole
        exact(x, 0, 3, 0, 1);
        // eight totals that have nothing in common need a great denominator
        x = Checks.map("aaaaaaaaaaaa/bbbbbbbbbbbb/cccccccccccc/dddddddddddd/"
                + "eeeeeeeeeeee/ffffffffffff/gggggggggggg/hhhhhhhhhhhh",
                "a.........../a.........../a.........../a.........../"
                + "a.........../a.........../a.........../a...........",
                "000000000000/000000000001/000000000002/000000000013/"
                + "000000000023/000000000033/000000000333/000000000113");
        x.weigh(0, 0, 9);
        x.weigh(0, 1, 8);
        x.weigh(0, 2, 4);
        x.weigh(0, 3, 1);
        Checks.counts(x, 0, "a=9999,b=9999,c=9999,d=9999,e=9999,f=9999,g=9999,h=9999");
        long[] totals = {108, 107, 103, 99, 95, 92, 84, 98};
        java.math.BigInteger n = java.math.BigInteger.ZERO;
        java.math.BigInteger d = java.math.BigInteger.ONE;
        for (int zone = 0; zone < 8; zone++) {
            java.math.BigInteger total = java.math.BigInteger.valueOf(totals[zone]);
            n = n.multiply(total).add(d.multiply(java.math.BigInteger.valueOf(9999 * 9)));
            d = d.multiply(total);
        }
        java.math.BigInteger by = n.gcd(d);
        java.math.BigInteger[] parts = n.divide(by).divideAndRemainder(d.divide(by));
        exact(x, 0, parts[0].longValueExact(), parts[1].longValueExact(), d.divide(by).longValueExact());
    }

    private static void coarse(ZoneShares x, int what, int... due) {
        for (int district = 0; district < 4; district++) {
            Checks.due("coarse(0, " + district + ", " + what + ")", x.coarse(0, district, what), due[district]);
        }
    }

    private static void byDistricts() {
        ZoneShares x = Checks.map("aaaa", "abc.", "0000");
        Checks.counts(x, 0, "a=1");
        x.district(1, 3);
        x.district(2, 3);
        x.district(7, 2);
        // by ZONES the first of like rests is a; by DISTRICTS the greatest is b with c
        coarse(x, 0, 1, 0, 0, 0);
        coarse(x, 1, 0, 0, 0, 1);
        // a whole one in a has no rest then
        Checks.counts(x, 0, "a=5");
        coarse(x, 0, 2, 0, 0, 2);
        coarse(x, 1, 1, 0, 0, 3);
        ZoneShares y = Checks.map("aaabbb", "abcabc", "000000");
        y.district(1, 1);
        y.district(2, 1);
        Checks.counts(y, 0, "a=1,b=1");
        coarse(y, 0, 2, 0, 0, 0);
        coarse(y, 1, 0, 2, 0, 0);
        y.settle(0, 1);
        // 2/3 and 4/3: one more for district 0 goes ahead
        coarse(y, 0, 1, 1, 0, 0);
        coarse(y, 1, 1, 1, 0, 0);
    }

    private static void byWay(ZoneShares x, int... due) {
        for (int zone = 0; zone < due.length; zone++) {
            Checks.due("byWay(0, " + zone + ")", x.byWay(0, zone), due[zone]);
        }
    }

    private static void byWayOfDistricts() {
        ZoneShares x = Checks.map("aa....", "abcc..", "000100");
        x.district(1, 1);
        x.district(2, 1);
        x.district(3, 1);
        Checks.counts(x, 0, "a=4");
        // 2 to district 1, shared by b with one cell and c with two, though nobody lives there
        byWay(x, 2, 1, 1, 0, 0, 0, 0, 0);
        Checks.due("moved(0, -1, 2)", x.moved(0, -1, 2), 0);
        x.weigh(0, 1, 4);
        byWay(x, 2, 0, 2, 0, 0, 0, 0, 0);
        x.weigh(0, 0, 0);
        // no WEIGHT in a: half to b by cells; in district 1 all WEIGHT is in c
        byWay(x, 2, 0, 2, 0, 0, 0, 0, 0);
    }

    private static void byWayByCellsAndBalanced() {
        ZoneShares x = Checks.map("aa....", "abcc..", "111111");
        x.district(1, 1);
        x.district(2, 1);
        Checks.counts(x, 0, "a=8");
        x.weigh(0, 1, 0);
        // 4 to district 1: 4/3 and 8/3 by CELLS
        byWay(x, 4, 1, 3, 0);
        Checks.counts(x, 0, "a=4");
        // 2 to district 1: 2/3 and 4/3; balanced one more goes to the first
        byWay(x, 2, 1, 1, 0);
        Checks.counts(x, 0, "a=10");
        // 5: 5/3 and 10/3
        byWay(x, 5, 2, 3, 0);
        Checks.counts(x, 0, "a=8");
        x.settle(0, 1);
        byWay(x, 4, 2, 2, 0);
    }

    private static void returned(ZoneShares x, int... due) {
        for (int zone = 0; zone < due.length; zone++) {
            Checks.due("returned(0, " + zone + ")", x.returned(0, zone), due[zone]);
        }
    }

    private static void andBack() {
        ZoneShares x = Checks.map("ab.b", "aaa.", "0120");
        Checks.counts(x, 0, "a=3,b=8");
        // 3 and 4 come to a, 4 go OUT; 7 by 3: 7/3 each, one over to the first
        returned(x, 3, 2, 0, 0, 0, 0, 0, 0, 2);
        Checks.due("astray(0)", x.astray(0), 6);
        x.weigh(0, 2, 5);
        // 7 by 1, 1, 5
        returned(x, 1, 1, 0, 0, 0, 0, 0, 0, 5);
        Checks.due("astray(0): . of OLD is no OLD ZONE", x.astray(0), 2 + 7);
        x.weigh(-1, 2, 0);
        x.weigh(-1, 1, 0);
        x.weigh(-1, 0, 0);
        returned(x, 3, 2, 0, 0, 0, 0, 0, 0, 2);
        Checks.due("nobody of GROUP 1", x.astray(1), 0);
        ZoneShares y = Checks.map("aabb", "abab", "0000");
        Checks.counts(y, 0, "a=1,b=1");
        // both to a and back: 1 each; balanced 1 to each and then halves that come out right
        returned(y, 1, 1, 0);
        y.settle(0, 1);
        returned(y, 1, 1, 0);
        Checks.counts(y, 0, "a=2");
        returned(y, 1, 1, 0);
        y.settle(0, 0);
        returned(y, 2, 0, 0);
        Checks.due("astray(0)", y.astray(0), 0);
    }

    private static void withoutThese() {
        ZoneShares x = Checks.map("a", "a", "0");
        for (int group : new int[] {-1, 3, Integer.MIN_VALUE}) {
            Checks.due("moved", x.moved(group, 0, 0), -1);
            Checks.due("exact", x.exact(group, 0, 0), -1);
            Checks.due("coarse", x.coarse(group, 0, 0), -1);
            Checks.due("byWay", x.byWay(group, 0), -1);
            Checks.due("returned", x.returned(group, 0), -1);
            Checks.due("astray", x.astray(group), -1);
        }
        Checks.due("moved(0, 8, 0)", x.moved(0, 8, 0), -1);
        Checks.due("moved(0, -2, 0)", x.moved(0, -2, 0), -1);
        Checks.due("moved(0, 0, 9)", x.moved(0, 0, 9), -1);
        Checks.due("moved(0, 0, -2)", x.moved(0, 0, -2), -1);
        Checks.due("exact(0, 9, 0)", x.exact(0, 9, 0), -1);
        Checks.due("exact(0, -1, 0)", x.exact(0, -1, 0), -1);
        Checks.due("exact(0, 0, 3)", x.exact(0, 0, 3), -1);
        Checks.due("exact(0, 0, -1)", x.exact(0, 0, -1), -1);
        Checks.due("coarse(0, 4, 0)", x.coarse(0, 4, 0), -1);
        Checks.due("coarse(0, -1, 0)", x.coarse(0, -1, 0), -1);
        Checks.due("coarse(0, 0, 2)", x.coarse(0, 0, 2), -1);
        Checks.due("byWay(0, 8)", x.byWay(0, 8), -1);
        Checks.due("byWay(0, -1)", x.byWay(0, -1), -1);
        Checks.due("returned(0, 9)", x.returned(0, 9), -1);
        Checks.due("returned(0, -1)", x.returned(0, -1), -1);
        ZoneShares y = new ZoneShares();
        Checks.layer(y, 0, "a");
        Checks.layer(y, 2, "0");
        Checks.due("moved", y.moved(0, -1, -1), -1);
        Checks.due("exact", y.exact(0, 0, 0), -1);
        Checks.due("coarse", y.coarse(0, 0, 1), -1);
        Checks.due("byWay", y.byWay(0, 0), -1);
        Checks.due("returned", y.returned(0, 0), -1);
        Checks.due("astray", y.astray(0), -1);
    }
}
