/** Each sentence of promises 18 and 20, of DISTRICTS and BY WAY OF DISTRICTS in the Terms. */
public final class DistrictEdgesTest {
    private static final int[] FAR = {256, 1 << 16, Integer.MIN_VALUE, Integer.MAX_VALUE};

    public static void main(String[] args) {
        ofItsZones();
        asOneZone();
        coarseNone();
        movedByRounding();
        outLast();
        shared();
        zonesOnTheMap();
        weightsOfAllCells();
        cellsWithoutWeights();
        byRounding();
        everyZone();
        byWayNone();
        Checks.finish("DistrictEdgesTest");
    }

    private static ZoneShares map(String old, String fresh, String land, String counts, int... districts) {
        ZoneShares x = Checks.map(old, fresh, land);
        Checks.counts(x, 0, counts);
        for (int zone = 0; zone < districts.length; zone++) {
            x.district(zone, districts[zone]);
        }
        return x;
    }

    private static void coarse(ZoneShares x, int what, int... due) {
        for (int district = 0; district < 4; district++) {
            Checks.due("coarse(0, " + district + ", " + what + ")", x.coarse(0, district, what), due[district]);
        }
    }

    private static void byWay(ZoneShares x, int... due) {
        for (int zone = 0; zone < 8; zone++) {
            Checks.due("byWay(0, " + zone + ")", x.byWay(0, zone), zone < due.length ? due[zone] : 0);
        }
    }

    private static void ofItsZones() {
        Checks.says("18", "People of a GROUP in a DISTRICT (0 to 3) what 0: those of its NEW ZONES,");
        ZoneShares x = map("abcdefgh/........", "abcdefgh/abcdefgh", "00000000/00000000",
                "a=1,b=2,c=4,d=8,e=16,f=32,g=64,h=128", 0, 1, 2, 3, 3, 2, 1, 0);
        coarse(x, 0, 129, 66, 36, 24);
        // who is OUT is in no DISTRICT
        Checks.layer(x, 1, "abcdefg./hhhhhhhh");
        coarse(x, 0, 1, 66, 36, 24);
        // each GROUP has its own
        Checks.counts(x, 2, "a=500");
        Checks.due("coarse(2, 0, 0)", x.coarse(2, 0, 0), 500);
        Checks.due("coarse(1, 0, 0)", x.coarse(1, 0, 0), 0);
        // those of the ZONES, each rounded on its own: of thirds a gets the one
        ZoneShares y = map("aaa", "abc", "000", "a=1", 0, 1, 1);
        coarse(y, 0, 1, 0, 0, 0);
        // all in one DISTRICT at first
        ZoneShares z = map("aaa", "abc", "000", "a=7");
        coarse(z, 0, 7, 0, 0, 0);
    }

    private static void asOneZone() {
        Checks.says("18", "1: if its ZONES were one ZONE, for all DISTRICTS.");
        ZoneShares x = map("aaa", "abc", "000", "a=1", 0, 1, 1);
        coarse(x, 1, 0, 1, 0, 0);
        Checks.counts(x, 0, "a=4");
        coarse(x, 0, 2, 2, 0, 0);
        coarse(x, 1, 1, 3, 0, 0);
        x.district(2, 0);
        coarse(x, 1, 3, 1, 0, 0);
        coarse(x, 0, 3, 1, 0, 0);
        x.district(1, 0);
        coarse(x, 1, 4, 0, 0, 0);
        // ZONES that are far from each other, from two OLD ones
        ZoneShares y = map("aaabbb", "abcabc", "000000", "a=2,b=2", 3, 1, 3);
        // twice 4/3 to DISTRICT 3 and 2/3 to DISTRICT 1
        coarse(y, 1, 0, 2, 0, 2);
        coarse(y, 0, 0, 2, 0, 2);
        y.district(0, 2);
        // 2/3 each: the first two DISTRICTS of like ones
        coarse(y, 1, 0, 2, 2, 0);
    }

    private static void coarseNone() {
        Checks.says("18", "NONE without these, or a whole MAP.");
        ZoneShares x = Looks.told();
        for (int group = -2; group <= 4; group++) {
            for (int district = -2; district <= 6; district++) {
                for (int what = -2; what <= 4; what++) {
                    boolean there = group >= 0 && group <= 2 && district >= 0 && district <= 3 && what >= 0 && what <= 1;
                    Checks.due("coarse(" + group + ", " + district + ", " + what + ")",
                            (x.coarse(group, district, what) == -1) != there);
                }
            }
        }
        for (int far : FAR) {
            Checks.due("a GROUP far off", x.coarse(far, 0, 0), -1);
            Checks.due("a DISTRICT far off", x.coarse(0, far, 0), -1);
            Checks.due("a what far off", x.coarse(0, 0, far), -1);
        }
    }

    private static void movedByRounding() {
        Checks.says("II", "if its ZONES were one ZONE: all is MOVED by ROUNDING,");
        // halves: by REMAINDERS both go to the first DISTRICT, BALANCED one each
        ZoneShares x = map("aabb", "abab", "0000", "a=1,b=1", 3, 2);
        coarse(x, 1, 0, 0, 2, 0);
        x.settle(0, 1);
        coarse(x, 1, 0, 0, 1, 1);
        // by 1 and 9 of 10: the greater rest, and BALANCED the first
        ZoneShares y = map("aa", "ab", "01", "a=1", 1, 3);
        y.weigh(0, 1, 9);
        coarse(y, 1, 0, 0, 0, 1);
        y.settle(0, 1);
        coarse(y, 1, 0, 1, 0, 0);
        // where no WEIGHT counts by CELLS
        ZoneShares z = map("aaab", "abcb", "0001", "a=3,b=4", 0, 2, 2);
        z.weigh(0, 0, 0);
        coarse(z, 1, 1, 0, 6, 0);
        // with what they have of the UNKNOWN
        Checks.counts(z, 0, "a=3,b=3,?=6");
        coarse(z, 1, 1, 0, 5, 0);
        z.settle(1, 1);
        coarse(z, 1, 2, 0, 10, 0);
    }

    private static void outLast() {
        Checks.says("II", "with DISTRICTS 0 to 3 for NEW ZONES (OUT last).");
        ZoneShares x = map("aa", ".h", "00", "a=1", 0, 0, 0, 0, 0, 0, 0, 3);
        coarse(x, 1, 0, 0, 0, 1);
        x.settle(0, 1);
        coarse(x, 1, 0, 0, 0, 1);
        x.settle(0, 0);
        // a third, and two thirds OUT
        ZoneShares y = map("aaa", ".h.", "000", "a=1", 0, 0, 0, 0, 0, 0, 0, 3);
        coarse(y, 1, 0, 0, 0, 0);
        Checks.counts(y, 0, "a=2");
        coarse(y, 1, 0, 0, 0, 1);
        // all OUT
        Checks.layer(y, 1, "...");
        coarse(y, 1, 0, 0, 0, 0);
    }

    private static void shared() {
        Checks.says("II", "BY WAY OF DISTRICTS: those who come to a DISTRICT, if its ZONES were one ZONE, are shared");
        // 6 and 4: by DISTRICTS 2/3 of the one and all of the other, not by OLD ZONES
        ZoneShares x = map("aaab.....", "abcc.dddd", "000000000", "a=6,b=4", 0, 1, 1, 2);
        coarse(x, 1, 2, 8, 0, 0);
        // 8 by one CELL of b and two of c: 8/3 and 16/3
        byWay(x, 2, 3, 5, 0);
        Checks.due("moved otherwise", x.moved(0, -1, 1), 2);
        // those who are OUT don't come by way of any
        ZoneShares y = map("aa", "a.", "00", "a=9");
        byWay(y, 5);
        Checks.due("OUT", y.moved(0, -1, 8), 4);
        // who comes is who would come if the ZONES were one: of thirds the DISTRICT of two gets the one
        ZoneShares z = map("aaa", "abc", "000", "a=1", 0, 1, 1);
        byWay(z, 0, 1, 0);
    }

    private static void zonesOnTheMap() {
        Checks.says("II", "among ZONES of it that the MAP has,");
        ZoneShares x = map("aaaa", "bbgg", "0000", "a=8", 2, 2, 2, 2, 2, 2, 2, 2);
        byWay(x, 0, 4, 0, 0, 0, 0, 4, 0);
        x.district(6, 1);
        byWay(x, 0, 4, 0, 0, 0, 0, 4, 0);
        // nobody comes to a DISTRICT of which the MAP has no ZONE
        x.district(0, 0);
        coarse(x, 1, 0, 4, 4, 0);
        ZoneShares y = map("....", "aabb", "0000", "a=8");
        byWay(y, 0, 0);
    }

    private static void weightsOfAllCells() {
        Checks.says("II", "by WEIGHTS of all CELLS of each (whatever stands in OLD;");
        // b has a CELL of a; b and c have others of b, of c that is not counted, and of nobody
        ZoneShares x = map("aabc..", "abbbcc", "001123", "a=12", 0, 1, 1);
        // 6 to DISTRICT 1: 3 by 2
        byWay(x, 6, 4, 2);
        x.weigh(0, 2, 5);
        // 3 by 6
        byWay(x, 6, 2, 4);
        x.weigh(0, 1, 4);
        // 9 by 6: 18/5 and 12/5
        byWay(x, 6, 4, 2);
        x.weigh(0, 3, 0);
        // 9 by 5: 27/7 and 15/7
        byWay(x, 6, 4, 2);
        x.weigh(1, 1, 0);
        byWay(x, 6, 4, 2);
    }

    private static void cellsWithoutWeights() {
        Checks.says("II", "are these 0 in all, by CELLS),");
        ZoneShares x = map("aaaa....", "aabbbccc", "01112222", "a=8", 0, 1, 1);
        // 4 to each DISTRICT: b 2 + 1, c 3
        byWay(x, 4, 2, 2);
        x.weigh(0, 2, 0);
        // WEIGHTS of b are 2 and those of c 0: these are not 0 in all
        byWay(x, 4, 4, 0);
        x.weigh(0, 1, 0);
        // all to a now
        byWay(x, 8, 0, 0);
        x.weigh(0, 0, 0);
        // none weighs: 4 and 4, and in DISTRICT 1 by CELLS
        byWay(x, 4, 2, 2);
        Checks.counts(x, 0, "a=12");
        byWay(x, 6, 3, 3);
        Checks.layer(x, 1, "aabb.ccc");
        byWay(x, 6, 2, 4);
        // the limit: one WEIGHT of 1, in the other DISTRICT
        x.weigh(0, 0, 1);
        byWay(x, 12, 0, 0);
    }

    private static void byRounding() {
        Checks.says("II", "by ROUNDING (DISTRICTS for OLD ZONES).");
        // 1 by 1 and 2 of 3: the greater rest, and BALANCED the first
        ZoneShares x = map("a..", "bcc", "000", "a=1");
        byWay(x, 0, 0, 1);
        x.settle(0, 1);
        byWay(x, 0, 1, 0);
        // of like ones the first
        ZoneShares y = map("aa", "hg", "00", "a=1");
        byWay(y, 0, 0, 0, 0, 0, 0, 1, 0);
        Checks.counts(y, 0, "a=3");
        byWay(y, 0, 0, 0, 0, 0, 0, 2, 1);
        // two DISTRICTS, each on its own: 1 by halves in both
        ZoneShares z = map("aabb", "abcd", "0000", "a=1,b=1", 0, 0, 3, 3);
        byWay(z, 1, 0, 1, 0);
        z.settle(0, 1);
        byWay(z, 1, 0, 1, 0);
        // by 1, 1 and 1 of 3: 2 left over go to the first two
        ZoneShares w = map("aaa", "ceg", "000", "a=5");
        byWay(w, 0, 0, 2, 0, 2, 0, 1, 0);
    }

    private static void everyZone() {
        Checks.says("20", "People of a GROUP that come to a NEW ZONE (0 to 7) BY WAY OF DISTRICTS;");
        ZoneShares x = Checks.map("abcdefgh/........", "abcdefgh/hgfedcba", "00000000/00000000");
        for (int zone = 0; zone < 8; zone++) {
            x.district(zone, zone % 4);
        }
        Checks.counts(x, 1, "a=2,b=4,c=6,d=8,e=10,f=12,g=14,h=16");
        for (int zone = 0; zone < 8; zone++) {
            // a with e, b with f and so on: half of both each
            Checks.due("byWay(1, " + zone + ")", x.byWay(1, zone), 6 + 2 * (zone % 4));
            Checks.due("byWay(0, " + zone + ")", x.byWay(0, zone), 0);
        }
    }

    private static void byWayNone() {
        Checks.says("20", "NONE without these, or a whole MAP.");
        ZoneShares x = Looks.told();
        for (int group = -2; group <= 4; group++) {
            for (int zone = -2; zone <= 10; zone++) {
                boolean there = group >= 0 && group <= 2 && zone >= 0 && zone <= 7;
                Checks.due("byWay(" + group + ", " + zone + ")", (x.byWay(group, zone) == -1) != there);
            }
        }
        for (int far : FAR) {
            Checks.due("a GROUP far off", x.byWay(far, 0), -1);
            Checks.due("a NEW ZONE far off", x.byWay(0, far), -1);
        }
    }
}
