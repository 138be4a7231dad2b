/** Promises 6 to 8, 10, 11, 29 and 30: weights, settings, districts, adopting, undoing. */
public final class ActsTest {
    public static void main(String[] args) {
        weights();
        settings();
        districts();
        adopting();
        adoptingByRounding();
        undoingLastFirst();
        undoingEachAct();
        Checks.finish("ActsTest");
    }

    private static void weights() {
        ZoneShares x = new ZoneShares();
        Checks.due("weigh(1, 2, 9)", x.weigh(1, 2, 9), 1);
        Checks.due("weight(1, 2)", x.weight(1, 2), 9);
        Checks.due("weight(0, 2)", x.weight(0, 2), 1);
        Checks.due("weight(2, 2)", x.weight(2, 2), 1);
        Checks.due("weight(1, 1)", x.weight(1, 1), 1);
        Checks.due("weigh(1, 2, 9)", x.weigh(1, 2, 9), -2);
        Checks.due("weigh(1, 2, 0)", x.weigh(1, 2, 0), 9);
        Checks.due("weigh(1, 2, 10)", x.weigh(1, 2, 10), -1);
        Checks.due("weigh(1, 2, -1)", x.weigh(1, 2, -1), -1);
        Checks.due("weigh(1, 4, 1)", x.weigh(1, 4, 1), -1);
        Checks.due("weigh(1, -1, 1)", x.weigh(1, -1, 1), -1);
        Checks.due("weigh(3, 0, 5)", x.weigh(3, 0, 5), -1);
        Checks.due("weigh(-2, 0, 5)", x.weigh(-2, 0, 5), -1);
        Checks.due("count(8)", x.count(8), 2);
        // of all: 1, 0, 1; so for GROUP 0 already, but not for all
        Checks.due("weigh(-1, 2, 1)", x.weigh(-1, 2, 1), 1);
        Checks.due("weight(1, 2)", x.weight(1, 2), 1);
        Checks.due("weigh(-1, 2, 1)", x.weigh(-1, 2, 1), -2);
        Checks.due("weigh(0, 3, 4)", x.weigh(0, 3, 4), 1);
        Checks.due("weigh(-1, 3, 7)", x.weigh(-1, 3, 7), 4);
        for (int group = 0; group < 3; group++) {
            Checks.due("weight(group, 3)", x.weight(group, 3), 7);
        }
        Checks.due("undo() takes all three back", x.undo(), 4);
        Checks.due("weight(0, 3)", x.weight(0, 3), 4);
        Checks.due("weight(2, 3)", x.weight(2, 3), 1);
        Checks.due("weight(-1, 0)", x.weight(-1, 0), -1);
        Checks.due("weight(3, 0)", x.weight(3, 0), -1);
        Checks.due("weight(0, 4)", x.weight(0, 4), -1);
        Checks.due("weight(0, -1)", x.weight(0, -1), -1);
    }

    private static void settings() {
        ZoneShares x = new ZoneShares();
        Checks.due("settle(0, 0)", x.settle(0, 0), -2);
        Checks.due("settle(0, 1)", x.settle(0, 1), 0);
        Checks.due("settle(0, 1)", x.settle(0, 1), -2);
        Checks.due("settle(1, 1)", x.settle(1, 1), 0);
        Checks.due("settle(0, 0)", x.settle(0, 0), 1);
        Checks.due("count(5)", x.count(5), 0);
        Checks.due("count(6)", x.count(6), 1);
        Checks.due("settle(1, 2)", x.settle(1, 2), -1);
        Checks.due("settle(1, -1)", x.settle(1, -1), -1);
        Checks.due("settle(2, 0)", x.settle(2, 0), -1);
        Checks.due("settle(-1, 0)", x.settle(-1, 0), -1);
        Checks.due("count(8)", x.count(8), 3);
    }

    private static void districts() {
        ZoneShares x = new ZoneShares();
        Checks.due("district(7, 3)", x.district(7, 3), 0);
        Checks.due("district(7, 3)", x.district(7, 3), -2);
        Checks.due("district(7, 1)", x.district(7, 1), 3);
        Checks.due("districtOf(7)", x.districtOf(7), 1);
        Checks.due("districtOf(6)", x.districtOf(6), 0);
        Checks.due("district(0, 0)", x.district(0, 0), -2);
        Checks.due("district(8, 0)", x.district(8, 0), -1);
        Checks.due("district(-1, 0)", x.district(-1, 0), -1);
        Checks.due("district(0, 4)", x.district(0, 4), -1);
        Checks.due("district(0, -1)", x.district(0, -1), -1);
        Checks.due("districtOf(8)", x.districtOf(8), -1);
        Checks.due("districtOf(-1)", x.districtOf(-1), -1);
        Checks.due("count(8)", x.count(8), 2);
    }

    private static void adopting() {
        ZoneShares x = new ZoneShares();
        Checks.layer(x, 0, "aab");
        Checks.layer(x, 1, "c.d");
        Checks.due("adopt() without LAND", x.adopt(), -1);
        Checks.due("count(8)", x.count(8), 2);
        Checks.layer(x, 2, "000");
        Checks.counts(x, 0, "a=5,b=4,?=7,h=2");
        Checks.counts(x, 2, "b=1");
        // a: 3 to c (the first of like rests), 2 OUT; b: 4 to d; ASIDE 9
        Checks.due("adopt()", x.adopt(), 3 + 4 + 1);
        Checks.due("count(8)", x.count(8), 6);
        Checks.due("people(0, 2)", x.people(0, 2), 3);
        Checks.due("people(0, 3)", x.people(0, 3), 4);
        Checks.due("people(0, 0)", x.people(0, 0), 0);
        Checks.due("people(0, 8)", x.people(0, 8), 11);
        Checks.due("people(0, 10)", x.people(0, 10), 18);
        Checks.due("people(2, 3)", x.people(2, 3), 1);
        for (int column = 0; column < 3; column++) {
            Checks.due("OLD is as NEW", x.cell(0, 0, column), x.cell(1, 0, column));
        }
        // all is as it is now, but it is an act
        Checks.due("adopt() again", x.adopt(), 8);
        Checks.due("count(8)", x.count(8), 7);
        x.undo();
        Checks.due("undo()", x.undo(), 5);
        Checks.due("cell(0, 0, 1)", x.cell(0, 0, 1), 'a');
        Checks.due("people(0, 0)", x.people(0, 0), 5);
        Checks.due("people(2, 1)", x.people(2, 1), 1);
        // SHARED: 9 UNKNOWN are moved with the others and then none is left
        x.settle(1, 1);
        Checks.due("adopt()", x.adopt(), 5 + 8 + 1);
        Checks.due("people(0, 8)", x.people(0, 8), 5);
        Checks.due("people(0, 9)", x.people(0, 9), 0);
    }

    private static void adoptingByRounding() {
        ZoneShares x = Checks.map("aabb", "abab", "0000");
        Checks.counts(x, 0, "a=1,b=1");
        Checks.due("adopt()", x.adopt(), 2);
        Checks.due("people(0, 0)", x.people(0, 0), 2);
        x.undo();
        x.settle(0, 1);
        Checks.due("adopt()", x.adopt(), 2);
        Checks.due("people(0, 0)", x.people(0, 0), 1);
        Checks.due("people(0, 1)", x.people(0, 1), 1);
    }

    private static void undoingLastFirst() {
        ZoneShares x = new ZoneShares();
        Checks.due("undo() of nothing", x.undo(), -1);
        for (int weight = 2; weight <= 9; weight++) {
            x.weigh(0, 0, weight);
        }
        Checks.due("count(8)", x.count(8), 8);
        x.weigh(0, 0, 0);
        x.weigh(0, 0, 1);
        Checks.due("no more than 8", x.count(8), 8);
        x.feed(1, 2, 3, 4, 5);
        int[] back = {0, 9, 8, 7, 6, 5, 4, 3};
        for (int k = 0; k < 8; k++) {
            Checks.due("undo()", x.undo(), 7 - k);
            Checks.due("weight(0, 0)", x.weight(0, 0), back[k]);
        }
        Checks.due("undo()", x.undo(), -1);
        Checks.due("weight(0, 0)", x.weight(0, 0), 3);
        Checks.due("the tape stays", x.count(9), 20);
        x.weigh(0, 0, 5);
        Checks.due("an act after undoing", x.count(8), 1);
        Checks.due("undo()", x.undo(), 0);
        Checks.due("weight(0, 0)", x.weight(0, 0), 3);
    }

    private static void undoingEachAct() {
        ZoneShares x = Checks.map("ab", "ab", "01");
        Checks.counts(x, 0, "a=3,b=1");
        x.settle(0, 1);
        x.settle(1, 1);
        x.district(1, 2);
        Checks.due("fit(0)", x.fit(0), 1);
        Checks.due("weight(0, 0)", x.weight(0, 0), 3);
        Checks.due("count(8)", x.count(8), 8);
        Checks.due("undo() of fit", x.undo(), 7);
        Checks.due("weight(0, 0)", x.weight(0, 0), 1);
        Checks.due("undo() of district", x.undo(), 6);
        Checks.due("districtOf(1)", x.districtOf(1), 0);
        Checks.due("undo() of UNKNOWN", x.undo(), 5);
        Checks.due("count(6)", x.count(6), 0);
        Checks.due("undo() of ROUNDING", x.undo(), 4);
        Checks.due("count(5)", x.count(5), 0);
        Checks.due("undo() of counts", x.undo(), 3);
        Checks.due("people(0, 10)", x.people(0, 10), 0);
        Checks.due("undo() of LAND", x.undo(), 2);
        Checks.due("count(7)", x.count(7), 3);
        Checks.due("undo() of NEW", x.undo(), 1);
        Checks.due("count(7)", x.count(7), 1);
        Checks.due("undo() of OLD", x.undo(), 0);
        Checks.due("count(7)", x.count(7), 0);
        Checks.due("count(0)", x.count(0), 0);
        Checks.due("cell(0, 0, 0)", x.cell(0, 0, 0), -1);
    }
}
