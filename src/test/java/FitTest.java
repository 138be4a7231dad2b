/** Promises 9 and 19: weights fitted to what was counted, and how far they miss it. */
public final class FitTest {
    public static void main(String[] args) {
        missing();
        fitting();
        theFirstOfLikeOnes();
        landsThatNoZoneHas();
        withoutThese();
        Checks.finish("FitTest");
    }

    private static void misfit(ZoneShares x, int group, long numerator, long denominator) {
        Checks.due("misfit(" + group + ", 0)", x.misfit(group, 0), numerator);
        Checks.due("misfit(" + group + ", 1)", x.misfit(group, 1), denominator);
    }

    private static void weights(ZoneShares x, int group, int... weights) {
        for (int land = 0; land < 4; land++) {
            Checks.due("weight(" + group + ", " + land + ")", x.weight(group, land), weights[land]);
        }
    }

    private static void missing() {
        ZoneShares x = Checks.map("aab.", "aaaa", "0123");
        Checks.counts(x, 0, "a=10,b=5,c=8,?=9");
        misfit(x, 0, 0, 1);
        x.weigh(0, 0, 2);
        // 10 and 15 times 3 by 4, 5 and 15 by 4: 5/4 twice
        misfit(x, 0, 5, 2);
        // UNKNOWN that are SHARED were not counted there
        x.settle(1, 1);
        misfit(x, 0, 5, 2);
        Checks.due("misfit(0, 2)", x.misfit(0, 2), -1);
        Checks.due("misfit(0, -1)", x.misfit(0, -1), -1);
        Checks.due("misfit(3, 0)", x.misfit(3, 0), -1);
        x.weigh(0, 0, 0);
        x.weigh(0, 1, 0);
        // all falls to b
        misfit(x, 0, 20, 1);
        x.weigh(0, 2, 0);
        Checks.due("no WEIGHT counts", x.misfit(0, 0), -1);
        Checks.due("no WEIGHT counts", x.misfit(0, 1), -1);
    }

    private static void fitting() {
        ZoneShares x = Checks.map("aab", "aaa", "012");
        Checks.counts(x, 1, "a=10,b=5");
        // 0, 2, 1 is the first of all that miss nothing
        Checks.due("fit(1)", x.fit(1), 2);
        weights(x, 1, 0, 2, 1, 1);
        weights(x, 0, 1, 1, 1, 1);
        misfit(x, 1, 0, 1);
        Checks.due("fit(1) again", x.fit(1), -2);
        Checks.due("count(8)", x.count(8), 5);
        Checks.due("undo()", x.undo(), 4);
        weights(x, 1, 1, 1, 1, 1);
        // at most 18 to 1 can be told: nearer to 30 to 1 than all to a
        Checks.counts(x, 2, "a=30,b=1");
        Checks.due("fit(2)", x.fit(2), 2);
        weights(x, 2, 9, 9, 1, 1);
        misfit(x, 2, 24, 19);
        // to 100 to 1 all to a is nearer
        Checks.counts(x, 2, "a=100,b=1");
        Checks.due("fit(2)", x.fit(2), 3);
        weights(x, 2, 0, 1, 0, 1);
        misfit(x, 2, 2, 1);
    }

    private static void theFirstOfLikeOnes() {
        ZoneShares x = Checks.map("ab", "ab", "00");
        Checks.counts(x, 0, "a=1,b=2");
        // every WEIGHT above 0 misses alike
        x.weigh(0, 0, 6);
        Checks.due("fit(0)", x.fit(0), 1);
        weights(x, 0, 1, 1, 1, 1);
        misfit(x, 0, 1, 1);
        x.weigh(0, 0, 0);
        Checks.due("no WEIGHT counts", x.misfit(0, 0), -1);
        Checks.due("fit(0)", x.fit(0), 1);
        weights(x, 0, 1, 1, 1, 1);
    }

    private static void landsThatNoZoneHas() {
        ZoneShares x = Checks.map("ab.", "abc", "013");
        Checks.counts(x, 0, "a=2,b=8,c=5");
        x.weigh(0, 2, 7);
        x.weigh(0, 3, 5);
        Checks.due("fit(0)", x.fit(0), 1);
        weights(x, 0, 1, 4, 7, 5);
    }

    private static void withoutThese() {
        ZoneShares x = new ZoneShares();
        Checks.layer(x, 0, "ab.");
        Checks.layer(x, 1, "abc");
        Checks.counts(x, 0, "a=1");
        Checks.due("fit(0) without LAND", x.fit(0), -1);
        Checks.due("misfit(0, 0) without LAND", x.misfit(0, 0), -1);
        Checks.layer(x, 2, "012");
        Checks.due("fit(-1)", x.fit(-1), -1);
        Checks.due("fit(3)", x.fit(3), -1);
        Checks.due("misfit(-1, 0)", x.misfit(-1, 0), -1);
        Checks.due("fit(1) of nobody", x.fit(1), -1);
        Checks.due("misfit(1, 0) of nobody", x.misfit(1, 0), -1);
        Checks.counts(x, 1, "c=5,?=6");
        Checks.due("fit(1) of unknown zones alone", x.fit(1), -1);
        x.settle(1, 1);
        Checks.due("fit(1), though SHARED: nobody was counted", x.fit(1), -1);
        Checks.due("count(8)", x.count(8), 6);
    }
}
