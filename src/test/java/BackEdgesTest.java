/** Each sentence of promises 10, 21 and 22, of ADOPTED and RETURNED in the Terms. */
public final class BackEdgesTest {
    private static final int[] FAR = {256, 1 << 16, Integer.MIN_VALUE, Integer.MAX_VALUE};

    public static void main(String[] args) {
        countsAreWhatIsMoved();
        unknownAreOutOrAside();
        oldIsAsNew();
        howManyLiveThere();
        adoptWithoutMap();
        whoIsReturned();
        bySameWeights();
        cellsByCells();
        byRounding();
        pointLast();
        toEveryZone();
        returnedNone();
        elsewhere();
        withoutSigns();
        astrayNone();
        Checks.finish("BackEdgesTest");
    }

    private static ZoneShares map(String old, String fresh, String land, String counts) {
        ZoneShares x = Checks.map(old, fresh, land);
        Checks.counts(x, 0, counts);
        return x;
    }

    private static void people(ZoneShares x, int group, int... due) {
        for (int what = 0; what < due.length; what++) {
            Checks.due("people(" + group + ", " + what + ")", x.people(group, what), due[what]);
        }
    }

    private static void returned(ZoneShares x, int point, int... due) {
        for (int zone = 0; zone < 8; zone++) {
            Checks.due("returned(0, " + zone + ")", x.returned(0, zone), zone < due.length ? due[zone] : 0);
        }
        Checks.due("returned(0, 8)", x.returned(0, 8), point);
    }

    private static void countsAreWhatIsMoved() {
        Checks.says("II", "ADOPTED: COUNTS are what is MOVED to each NEW ZONE,");
        ZoneShares x = map("aabbc", "hhag.", "00000", "a=4,b=5,c=2");
        Checks.counts(x, 1, "b=1");
        Checks.due("adopt()", x.adopt(), 10);
        // to h all of a; of b 3 to a and 2 to g; c is OUT
        people(x, 0, 3, 0, 0, 0, 0, 0, 2, 4, 2, 2, 11);
        people(x, 1, 1, 0, 0, 0, 0, 0, 0, 0, 0, 0, 1);
        people(x, 2, 0, 0, 0, 0, 0, 0, 0, 0, 0, 0, 0);
        // c is told no more: told anew with c nobody was counted there
        Checks.layer(x, 0, "abcgh");
        people(x, 0, 3, 0, 0, 0, 0, 0, 2, 4, 2, 2, 11);
        // BALANCED, if that is the ROUNDING
        ZoneShares y = map("aabb", "abab", "0000", "a=1,b=1");
        y.settle(0, 1);
        y.adopt();
        people(y, 0, 1, 1);
        // more than a NUMBER can tell
        ZoneShares z = map("abcdefgh", "cccccccc", "00000000",
                "a=9999,b=9999,c=9999,d=9999,e=9999,f=9999,g=9999,h=9999,?=9999");
        z.settle(1, 1);
        Checks.due("adopt()", z.adopt(), 89991);
        people(z, 0, 0, 0, 89991, 0, 0, 0, 0, 0, 0, 0, 89991);
        Checks.due("moved then", z.moved(0, 2, 2), 89991);
        Checks.due("returned then", z.returned(0, 2), 89991);
        Checks.due("surface then", z.surface(0, 0, 0, 0), 89991);
        Checks.due("surface then", z.surface(0, 0, 0, 1), 8);
    }

    private static void unknownAreOutOrAside() {
        Checks.says("II", "? of each GROUP those who are MOVED OUT or ASIDE;");
        String[] counts = {"a=4,?=3", "a=5,b=2", "?=6,h=1"};
        int[] out = {2, 2, 0};
        int[] aside = {3, 2, 7};
        ZoneShares x = Checks.map("aa.", "c.d", "000");
        for (int group = 0; group < 3; group++) {
            Checks.counts(x, group, counts[group]);
        }
        x.adopt();
        for (int group = 0; group < 3; group++) {
            Checks.due("UNKNOWN of " + group, x.people(group, 8), out[group] + aside[group]);
        }
        // SHARED: none is ASIDE, half of all is OUT; then they are SHARED anew
        ZoneShares y = map("aa.", "c.d", "000", "a=4,?=3");
        y.settle(1, 1);
        Checks.due("adopt()", y.adopt(), 4);
        Checks.due("UNKNOWN", y.people(0, 8), 3);
        people(y, 0, 0, 0, 7, 0, 0, 0, 0, 0, 3, 0, 7);
        Checks.due("adopt() again: none is OUT", y.adopt(), 7);
        people(y, 0, 0, 0, 7, 0, 0, 0, 0, 0, 0, 0, 7);
        // as many as can be
        ZoneShares z = map("abcdefgh", "........", "00000000",
                "a=9999,b=9999,c=9999,d=9999,e=9999,f=9999,g=9999,h=9999,?=9999");
        Checks.due("adopt()", z.adopt(), 0);
        people(z, 0, 0, 0, 0, 0, 0, 0, 0, 0, 89991, 89991, 89991);
    }

    private static void oldIsAsNew() {
        Checks.says("II", "OLD is as NEW.");
        ZoneShares x = map("aab/.bc", "h.a/gcb", "012/301", "a=7,b=3");
        x.weigh(0, 2, 6);
        x.district(7, 3);
        x.settle(0, 1);
        x.adopt();
        String fresh = "h.agcb";
        String land = "012301";
        for (int k = 0; k < 6; k++) {
            Checks.due("OLD", x.cell(0, k / 3, k % 3), fresh.charAt(k));
            Checks.due("NEW stays", x.cell(1, k / 3, k % 3), fresh.charAt(k));
            Checks.due("LAND stays", x.cell(2, k / 3, k % 3), land.charAt(k));
        }
        int[] due = {6, 2, 5, 5, 4, 1, 0, 7};
        for (int what = 0; what < due.length; what++) {
            Checks.due("count(" + what + ")", x.count(what), due[what]);
        }
        Checks.due("unlike CELLS", x.apart(0), 0);
        Checks.due("the WEIGHTS stay", x.weight(0, 2), 6);
        Checks.due("the DISTRICTS stay", x.districtOf(7), 3);
        // NEW told anew is of its own
        Checks.layer(x, 1, "aaa/aaa");
        Checks.due("OLD", x.cell(0, 0, 0), 'h');
    }

    private static void howManyLiveThere() {
        Checks.says("10", "ADOPTED: how many people live in ZONES of the MAP, of all GROUPS;");
        ZoneShares x = Checks.map("aab", "a.b", "000");
        Checks.due("of nobody", x.adopt(), 0);
        x.undo();
        Checks.counts(x, 0, "a=2,b=3,?=100");
        Checks.counts(x, 1, "a=20,c=1000");
        Checks.counts(x, 2, "b=600");
        Checks.due("who is OUT or ASIDE is not there", x.adopt(), 4 + 10 + 600);
        Checks.due("once more", x.adopt(), 614);
        ZoneShares y = Checks.map("a", "a", "0");
        for (int group = 0; group < 3; group++) {
            Checks.counts(y, group, "a=9999,b=9999,c=9999,d=9999,e=9999,f=9999,g=9999,h=9999,?=9999");
        }
        y.settle(1, 1);
        Checks.due("as many as can be", y.adopt(), 269973);
    }

    private static void adoptWithoutMap() {
        Checks.says("10", "NONE, and nothing happens, without a whole MAP.");
        String[] texts = {"ab", "b.", "01"};
        for (int missing = 0; missing < 3; missing++) {
            int layer = missing;
            Looks.leaves("adopt() without " + missing, () -> {
                ZoneShares x = new ZoneShares();
                for (int what = 0; what < 3 && layer > 0; what++) {
                    if (what != layer) {
                        Checks.layer(x, what, texts[what]);
                    }
                }
                Checks.counts(x, 0, "a=5,?=6");
                return x;
            }, x -> x.adopt(), -1);
        }
        Looks.leaves("adopt() behind OLD told anew", () -> {
            ZoneShares x = Looks.told("a");
            x.layer(0);
            return x;
        }, x -> x.adopt(), -1);
    }

    private static void whoIsReturned() {
        Checks.says("II", "RETURNED: those who are MOVED to NEW ZONES (not OUT) are shared among OLD ZONES and . of OLD likewise,");
        // to a 3 and 1, 3 OUT, 3 to h
        ZoneShares x = map("aab.b.", "a.a.hh", "000000", "a=6,b=4,?=5");
        // 5 to a: 5/2 from a and b each; 2 to h: 1 to b, 1 to .
        Checks.due("to a", x.moved(0, -1, 0), 5);
        Checks.due("to h", x.moved(0, -1, 7), 2);
        returned(x, 1, 3, 3);
        // nobody is returned of those who are OUT
        Checks.layer(x, 1, "......");
        returned(x, 0, 0, 0);
        // nor of those who are ASIDE, until they are SHARED
        Checks.layer(x, 1, "aaabbb");
        // 8 to a: 16/3 and 8/3; 2 to b: 2/3 to b and 4/3 to .
        returned(x, 1, 5, 3 + 1);
        x.settle(1, 1);
        // 12 to a, 3 to b
        returned(x, 2, 8, 4 + 1);
    }

    private static void bySameWeights() {
        Checks.says("II", "by the same WEIGHTS (of all CELLS of the NEW ZONE;");
        ZoneShares x = map("ab.c", "aaaa", "0123", "a=20");
        returned(x, 5, 5, 5, 5);
        x.weigh(0, 0, 4);
        x.weigh(0, 1, 9);
        x.weigh(0, 2, 5);
        x.weigh(0, 3, 2);
        returned(x, 5, 4, 9, 2);
        x.weigh(0, 2, 0);
        // 20 by 4, 9 and 2 of 15: 5 1/3, 12 and 2 2/3
        returned(x, 0, 5, 12, 3);
        // of another GROUP
        x.weigh(1, 0, 0);
        returned(x, 0, 5, 12, 3);
        Checks.counts(x, 1, "a=3");
        Checks.due("returned(1, 0)", x.returned(1, 0), 0);
        Checks.due("returned(1, 8)", x.returned(1, 8), 1);
    }

    private static void cellsByCells() {
        Checks.says("II", "are these 0, CELLS by CELLS)");
        ZoneShares x = map("aab.ab", "aaaabb", "000012", "a=12");
        // 8 to a, 4 to b
        Checks.due("to a", x.moved(0, -1, 0), 8);
        x.weigh(0, 0, 0);
        // a weighs in b alone: all to b, by the WEIGHTS of b
        returned(x, 0, 6, 6);
        x.weigh(0, 1, 0);
        // no WEIGHT in a: 8 by 2, 1 and 1 CELLS; in b all to b
        returned(x, 2, 4, 6);
        x.weigh(0, 2, 0);
        returned(x, 2, 6, 4);
        // the limit: one WEIGHT of 1 in a
        x.weigh(0, 1, 1);
        x.weigh(0, 2, 1);
        returned(x, 0, 6, 6);
    }

    private static void byRounding() {
        Checks.says("II", "and ROUNDING, NEW ZONES for the OLD ones,");
        // 2 to a, 2 to b
        ZoneShares x = map("abab", "aabb", "0000", "a=2,b=2");
        returned(x, 0, 2, 2);
        // 1 to a and 1 to b: each half and half, by REMAINDERS both to a
        Checks.counts(x, 0, "a=2");
        returned(x, 0, 2, 0);
        x.settle(0, 1);
        returned(x, 0, 1, 1);
        // 1 by 1 and 9 of 10: the greater rest, and BALANCED the first
        ZoneShares y = map("ab", "cc", "01", "b=1");
        y.weigh(0, 1, 9);
        returned(y, 0, 0, 1);
        y.settle(0, 1);
        returned(y, 0, 1, 0);
    }

    private static void pointLast() {
        Checks.says("II", ". of OLD last.");
        ZoneShares x = map(".h", "aa", "00", "h=1");
        returned(x, 0, 0, 0, 0, 0, 0, 0, 0, 1);
        Checks.counts(x, 0, "h=3");
        returned(x, 1, 0, 0, 0, 0, 0, 0, 0, 2);
        x.settle(0, 1);
        returned(x, 1, 0, 0, 0, 0, 0, 0, 0, 2);
        // but with the greatest rest it is the first
        ZoneShares y = map(".h.", "aaa", "000", "h=1");
        returned(y, 1, 0);
    }

    private static void toEveryZone() {
        Checks.says("21", "RETURNED of a GROUP to an OLD ZONE (0 to 7; 8: to . of OLD);");
        ZoneShares x = Checks.map("abcdefgh", "hgfedcba", "00000000");
        Checks.counts(x, 2, "a=1,b=2,c=3,d=4,e=5,f=6,g=7,h=8");
        for (int zone = 0; zone < 8; zone++) {
            Checks.due("returned(2, " + zone + ")", x.returned(2, zone), zone + 1);
            Checks.due("returned(0, " + zone + ")", x.returned(0, zone), 0);
        }
        Checks.due("returned(2, 8)", x.returned(2, 8), 0);
        Checks.layer(x, 0, "abcd....");
        Checks.layer(x, 1, "aaaaaaaa");
        Checks.due("to one that OLD has not", x.returned(2, 7), 0);
        Checks.due("to . half of ten", x.returned(2, 8), 5);
    }

    private static void returnedNone() {
        Checks.says("21", "NONE without these, or a whole MAP.");
        ZoneShares x = Looks.told();
        for (int group = -2; group <= 4; group++) {
            for (int zone = -2; zone <= 11; zone++) {
                boolean there = group >= 0 && group <= 2 && zone >= 0 && zone <= 8;
                Checks.due("returned(" + group + ", " + zone + ")", (x.returned(group, zone) == -1) != there);
            }
        }
        for (int far : FAR) {
            Checks.due("a GROUP far off", x.returned(far, 0), -1);
            Checks.due("an OLD ZONE far off", x.returned(0, far), -1);
        }
    }

    private static void elsewhere() {
        Checks.says("22", "How many people of a GROUP are RETURNED elsewhere than they were:");
        ZoneShares x = map("abcdefgh", "hgfedcba", "00000000", "a=1,b=2,c=3,d=4,e=5,f=6,g=7,h=8");
        Checks.due("astray(0)", x.astray(0), 0);
        // all to one and back by CELLS: 36 by 8 are 4 and a half
        Checks.layer(x, 1, "cccccccc");
        returned(x, 0, 5, 5, 5, 5, 4, 4, 4, 4);
        Checks.due("astray(0)", x.astray(0), 4 + 3 + 2 + 1 + 1 + 2 + 3 + 4);
        Checks.due("astray(1)", x.astray(1), 0);
        // who is OUT is not returned
        Checks.layer(x, 1, ".bcdefg.");
        Checks.due("astray(0)", x.astray(0), 1 + 8);
    }

    private static void withoutSigns() {
        Checks.says("22", "all differences of PEOPLE of OLD ZONES and RETURNED, without signs, together;");
        ZoneShares x = map("ab.", "aaa", "000", "a=9");
        // 3 each: 6 too few in a, 3 too many in b, and . is no ZONE
        returned(x, 3, 3, 3);
        Checks.due("astray(0)", x.astray(0), 9);
        // with what they have of the UNKNOWN: 12 in a, 4 each
        Checks.counts(x, 0, "a=9,?=3");
        x.settle(1, 1);
        Checks.due("astray(0)", x.astray(0), 8 + 4);
        x.settle(1, 0);
        Checks.due("astray(0)", x.astray(0), 9);
    }

    private static void astrayNone() {
        Checks.says("22", "NONE without that GROUP, or a whole MAP.");
        ZoneShares x = Looks.told();
        for (int group = -2; group <= 5; group++) {
            Checks.due("astray(" + group + ")", (x.astray(group) == -1) != (group >= 0 && group <= 2));
        }
        for (int far : FAR) {
            Checks.due("a GROUP far off", x.astray(far), -1);
        }
    }
}
