import java.util.function.Supplier;

/** Each sentence of promises 9 and 19, of MISFIT and FITTED in the Terms. */
public final class FitEdgesTest {
    private static final int[] NO_GROUPS = {-1, -2, 3, 4, 256, Integer.MIN_VALUE, Integer.MAX_VALUE};

    public static void main(String[] args) {
        misfitOfZones();
        misfitOfPeople();
        misfitByWeights();
        zonesThatOldHas();
        rowsToTry();
        landsOfAZone();
        sumAboveZero();
        leastMisfit();
        firstOfLikeOnes();
        howManyAreOthers();
        noneIsAnother();
        oneGroupAlone();
        notWithoutThese();
        notForNobody();
        lowestTerms();
        misfitNone();
        noWeightCounts();
        Checks.finish("FitEdgesTest");
    }

    private static void misfit(ZoneShares x, int group, long numerator, long denominator) {
        Checks.due("misfit(" + group + ", 0)", x.misfit(group, 0), numerator);
        Checks.due("misfit(" + group + ", 1)", x.misfit(group, 1), denominator);
    }

    private static void weights(ZoneShares x, int group, String due) {
        StringBuilder weights = new StringBuilder();
        for (int land = 0; land < 4; land++) {
            weights.append(x.weight(group, land));
        }
        Checks.due("WEIGHTS " + weights + ", due are " + due, weights.toString().equals(due));
    }

    private static void weigh(ZoneShares x, int group, String weights) {
        for (int land = 0; land < 4; land++) {
            x.weigh(group, land, weights.charAt(land) - '0');
        }
    }

    /** OLD (each ZONE its own cells), LAND, COUNTS and the WEIGHTS ahead; then those that fit. */
    private static void fits(String old, String land, String counts, String ahead, String due) {
        ZoneShares x = Checks.map(old, old, land);
        Checks.counts(x, 0, counts);
        weigh(x, 0, ahead);
        int others = 0;
        for (int k = 0; k < 4; k++) {
            others += ahead.charAt(k) == due.charAt(k) ? 0 : 1;
        }
        Checks.due("fit(0) of " + counts, x.fit(0), others == 0 ? -2 : others);
        weights(x, 0, due);
    }

    private static void misfitOfZones() {
        Checks.says("II", "MISFIT of a GROUP: of ZONES that OLD has, c what was counted there, s WEIGHTS of its CELLS, together, C and S those of all:");
        ZoneShares x = Checks.map("aab.", "aaaa", "0013");
        // what was counted in d, those of ? and the CELL where nobody lives are none of it
        Checks.counts(x, 0, "a=4,b=5,d=100,?=50");
        misfit(x, 0, 4, 1);
        x.weigh(0, 3, 9);
        misfit(x, 0, 4, 1);
        x.settle(1, 1);
        misfit(x, 0, 4, 1);
        x.settle(0, 1);
        misfit(x, 0, 4, 1);
        // what falls OUT is of it
        Checks.layer(x, 1, "....");
        misfit(x, 0, 4, 1);
    }

    private static void misfitOfPeople() {
        // nobody counted in one of the ZONES: it has its CELLS all the same
        ZoneShares x = Checks.map("abb", "abb", "000");
        Checks.counts(x, 0, "a=6");
        misfit(x, 0, 8, 1);
        Checks.counts(x, 0, "b=6");
        misfit(x, 0, 4, 1);
        Checks.counts(x, 0, "a=2,b=4");
        misfit(x, 0, 0, 1);
        Checks.counts(x, 0, "a=1");
        misfit(x, 0, 4, 3);
    }

    private static void misfitByWeights() {
        Checks.says("II", "all differences of c and C times s by S, without signs, together.");
        ZoneShares x = Checks.map("aab.", "aaaa", "0013");
        Checks.counts(x, 0, "a=4,b=5");
        weigh(x, 0, "1211");
        misfit(x, 0, 1, 1);
        weigh(x, 0, "1311");
        misfit(x, 0, 4, 5);
        weigh(x, 0, "1011");
        misfit(x, 0, 10, 1);
        weigh(x, 0, "0111");
        misfit(x, 0, 8, 1);
        weigh(x, 0, "2511");
        misfit(x, 0, 0, 1);
        // another GROUP has its own
        Checks.counts(x, 1, "a=4,b=5");
        misfit(x, 1, 4, 1);
        ZoneShares y = Checks.map("abcdefgh", "abcdefgh", "00000000");
        Checks.counts(y, 2, "a=9999,b=9999,c=9999,d=9999,e=9999,f=9999,g=9999,h=9999");
        misfit(y, 2, 0, 1);
        Checks.counts(y, 2, "a=9999,h=1");
        // 1250 each: 8749, six times 1250 and 1249
        misfit(y, 2, 17498, 1);
    }

    private static void zonesThatOldHas() {
        Checks.says("II", "of ZONES that OLD has,");
        ZoneShares x = Checks.map("hg", "..", "01");
        Checks.counts(x, 0, "h=1,g=2,a=9999");
        misfit(x, 0, 1, 1);
        Checks.due("fit(0)", x.fit(0), 1);
        weights(x, 0, "1211");
    }

    private static void rowsToTry() {
        Checks.says("II", "FITTED: of all rows of WEIGHTS 0 to 9");
        fits("ab", "01", "a=1,b=9", "1111", "1911");
        fits("ab", "01", "a=9,b=1", "1111", "9111");
        fits("ab", "01", "a=0,b=7", "1111", "0111");
        fits("ab", "01", "a=7,b=0", "1111", "1011");
        fits("abcd", "0123", "a=9,b=8,c=7,d=5", "1111", "9875");
        fits("abcd", "0123", "a=5,b=7,c=8,d=9", "0000", "5789");
        fits("abcd", "3210", "a=0,b=2,c=0,d=9", "9999", "9020");
        // 10 to 1 can't be told: 9 to 1 is the nearest
        fits("ab", "01", "a=10,b=1", "1111", "9111");
        // all cells of a ZONE together
        fits("aab", "010", "a=3,b=2", "1111", "2111");
    }

    private static void landsOfAZone() {
        Checks.says("II", "for LANDS that the MAP has in a ZONE of OLD (the others stay),");
        for (String ahead : new String[] {"1100", "1177", "1190", "1109"}) {
            // LAND 2 is where nobody lives, LAND 3 is nowhere
            fits("ab.", "012", "a=2,b=3", ahead, "23" + ahead.substring(2));
        }
        fits("a", "3", "a=5", "0000", "0001");
        fits("a", "3", "a=5", "9999", "9991");
        // a LAND that falls OUT is one of a ZONE of OLD
        ZoneShares x = Checks.map("ab", "..", "32");
        Checks.counts(x, 0, "a=4,b=1");
        Checks.due("fit(0)", x.fit(0), 1);
        weights(x, 0, "1114");
    }

    private static void sumAboveZero() {
        Checks.says("II", "with S above 0,");
        // 0 0 would be the first row of all
        fits("ab", "01", "a=5,b=5", "1111", "1111");
        fits("ab", "01", "a=5,b=5", "0000", "1100");
        fits("a", "0", "a=1", "1111", "1111");
        fits("a", "0", "a=1", "0111", "1111");
        fits("aa", "01", "a=1", "1111", "0111");
    }

    private static void leastMisfit() {
        Checks.says("II", "that with the least MISFIT,");
        // to 18 the row 1 9 misses by 18/10, to 20 by 22/10; 0 1 always by 2
        fits("ab", "01", "a=1,b=18", "1111", "1911");
        fits("ab", "01", "a=1,b=20", "1111", "0111");
        // two LANDS in one ZONE: up to 18 to 1
        fits("aab", "012", "a=18,b=1", "1111", "9911");
        fits("aab", "012", "a=17,b=1", "1111", "8911");
        // c has the LANDS of both: 2, 4 and 6 can be told by 1 and 2
        fits("abccd", "01010", "a=2,b=4,c=6,d=2", "9999", "1299");
        // none fits: b and c miss by 3 at least, and with 4 7 a misses by none
        ZoneShares x = Checks.map("abc", "abc", "011");
        Checks.counts(x, 0, "a=2,b=2,c=5");
        int fitted = x.fit(0);
        long[] best = {x.misfit(0, 0), x.misfit(0, 1)};
        String row = "" + x.weight(0, 0) + x.weight(0, 1);
        Checks.due("fit(0)", fitted, 2);
        misfit(x, 0, 3, 1);
        weights(x, 0, "4711");
        for (int a = 0; a < 10; a++) {
            for (int b = 0; b < 10; b++) {
                x.weigh(0, 0, a);
                x.weigh(0, 1, b);
                long n = x.misfit(0, 0);
                long d = x.misfit(0, 1);
                boolean ahead = ("" + a + b).compareTo(row) < 0;
                Checks.due("row " + a + b, n < 0 && a + b == 0 || n * best[1] > best[0] * d
                        || n * best[1] == best[0] * d && !ahead);
            }
        }
    }

    private static void firstOfLikeOnes() {
        Checks.says("II", "of like ones the first (LAND by LAND, the lesser first).");
        // every WEIGHT above 0 alike
        for (String ahead : new String[] {"0111", "5111", "9111"}) {
            fits("ab", "00", "a=1,b=2", ahead, "1111");
        }
        // 1 9 and 0 1 both miss by 2
        fits("ab", "01", "a=1,b=19", "1111", "0111");
        // 9 1 and 1 0, likewise: 1 0 is the first
        fits("ab", "01", "a=19,b=1", "1111", "1011");
        // 0 + 1 is as good as 1 + 0 and 1 + 1 by 2
        fits("aab", "012", "a=3,b=3", "1111", "0111");
        fits("aab", "120", "a=3,b=3", "1111", "1011");
        fits("aab", "230", "a=3,b=3", "1111", "1101");
        fits("aaaa", "0123", "a=3", "1111", "0001");
        // 2 4 6 8 is as good as 1 2 3 4
        fits("abcd", "0123", "a=2,b=4,c=6,d=8", "2468", "1234");
        fits("abcd", "0123", "a=7,b=7,c=7,d=7", "2222", "1111");
    }

    private static void howManyAreOthers() {
        Checks.says("9", "FITTED: how many WEIGHTS are others then;");
        String[] ahead = {"1235", "1255", "1335", "2234", "1555", "2254", "5555", "4321"};
        int[] due = {1, 2, 2, 1, 3, 2, 4, 4};
        for (int k = 0; k < ahead.length; k++) {
            ZoneShares x = Checks.map("abcd", "abcd", "0123");
            Checks.counts(x, 1, "a=1,b=2,c=3,d=4");
            weigh(x, 1, ahead[k]);
            Checks.due("fit(1) of " + ahead[k], x.fit(1), due[k]);
            weights(x, 1, "1234");
        }
    }

    private static void noneIsAnother() {
        Checks.says("9", "-2, and nothing happens: none is;");
        Supplier<ZoneShares> fitted = () -> {
            ZoneShares x = Looks.told();
            x.fit(0);
            return x;
        };
        Looks.leaves("fit(0) once more", fitted, x -> x.fit(0), -2);
        ZoneShares x = fitted.get();
        Checks.due("ACTS", x.count(8), 7);
        Supplier<ZoneShares> alike = () -> {
            ZoneShares y = Checks.map("abcd", "abcd", "0123");
            Checks.counts(y, 2, "a=3,b=3,c=3,d=3");
            return y;
        };
        Looks.leaves("fit(2) of like ones", alike, y -> y.fit(2), -2);
    }

    private static void oneGroupAlone() {
        Checks.says("9", "FITTED: how many WEIGHTS are others then;");
        ZoneShares x = Checks.map("ab", "ab", "01");
        for (int group = 0; group < 3; group++) {
            Checks.counts(x, group, "a=" + (group + 2) + ",b=1");
        }
        Checks.due("fit(1)", x.fit(1), 1);
        weights(x, 0, "1111");
        weights(x, 1, "3111");
        weights(x, 2, "1111");
        Checks.due("fit(2)", x.fit(2), 1);
        Checks.due("fit(0)", x.fit(0), 1);
        weights(x, 0, "2111");
        weights(x, 1, "3111");
        weights(x, 2, "4111");
        Checks.due("one ACT each", x.count(8), 8);
    }

    private static Supplier<ZoneShares> without(int layer) {
        return () -> {
            ZoneShares x = new ZoneShares();
            String[] texts = {"ab", "ab", "01"};
            for (int what = 0; what < 3 && layer > 0; what++) {
                if (what != layer) {
                    Checks.layer(x, what, texts[what]);
                }
            }
            Checks.counts(x, 0, "a=5,b=1");
            return x;
        };
    }

    private static void notWithoutThese() {
        Checks.says("9", "NONE, and nothing happens, without that GROUP, without a whole MAP,");
        for (int group : NO_GROUPS) {
            Looks.leaves("fit(" + group + ")", Looks::told, x -> x.fit(group), -1);
        }
        for (int layer = 0; layer < 3; layer++) {
            Looks.leaves("fit(0) without " + layer, without(layer), x -> x.fit(0), -1);
        }
    }

    private static Supplier<ZoneShares> counted(String counts, int sharing) {
        return () -> {
            ZoneShares x = Checks.map("ab.", "abc", "012");
            x.weigh(-1, 0, 5);
            Checks.counts(x, 0, counts);
            x.settle(1, sharing);
            return x;
        };
    }

    private static void notForNobody() {
        Checks.says("9", "or if nobody lives in a ZONE that OLD has.");
        for (int sharing = 0; sharing < 2; sharing++) {
            for (String counts : new String[] {"", "a=0", "a=0,b=0,c=7,?=5", "h=1"}) {
                Looks.leaves("fit(0) of " + counts, counted(counts, sharing), x -> x.fit(0), -1);
                ZoneShares x = counted(counts, sharing).get();
                Checks.due("misfit(0, 0) of " + counts, x.misfit(0, 0), -1);
                Checks.due("misfit(0, 1) of " + counts, x.misfit(0, 1), -1);
            }
            // one person is enough: all by b
            ZoneShares x = counted("b=1", sharing).get();
            Checks.due("misfit(0, 0)", x.misfit(0, 0), 5);
            Checks.due("misfit(0, 1)", x.misfit(0, 1), 3);
            Checks.due("fit(0) of one", x.fit(0), 1);
            weights(x, 0, "0111");
        }
        // another GROUP lives there
        Looks.leaves("fit(2)", counted("a=5", 0), x -> x.fit(2), -1);
    }

    private static void lowestTerms() {
        Checks.says("19", "MISFIT of a GROUP with its WEIGHTS as they are, what 0: numerator, 1: denominator, in lowest terms.");
        ZoneShares x = Checks.map("ab", "ab", "01");
        Checks.counts(x, 0, "a=1,b=1");
        misfit(x, 0, 0, 1);
        x.weigh(0, 0, 3);
        misfit(x, 0, 1, 1);
        x.weigh(0, 0, 2);
        misfit(x, 0, 2, 3);
        x.weigh(0, 1, 4);
        misfit(x, 0, 2, 3);
        x.weigh(0, 1, 9);
        misfit(x, 0, 14, 11);
        x.undo();
        misfit(x, 0, 2, 3);
    }

    private static void misfitNone() {
        Checks.says("19", "NONE as fit(),");
        ZoneShares x = Looks.told();
        Checks.due("misfit(0, 0)", x.misfit(0, 0) >= 0);
        Checks.due("misfit(0, 1)", x.misfit(0, 1) >= 1);
        for (int group : NO_GROUPS) {
            Checks.due("misfit(" + group + ", 0)", x.misfit(group, 0), -1);
            Checks.due("misfit(" + group + ", 1)", x.misfit(group, 1), -1);
        }
        for (int what : new int[] {-1, -2, 2, 3, 256, Integer.MIN_VALUE, Integer.MAX_VALUE}) {
            Checks.due("misfit(0, " + what + ")", x.misfit(0, what), -1);
        }
        Checks.due("of nobody", x.misfit(2, 0), -1);
        for (int layer = 0; layer < 3; layer++) {
            Checks.due("without " + layer, without(layer).get().misfit(0, 0), -1);
            Checks.due("without " + layer, without(layer).get().misfit(0, 1), -1);
        }
    }

    private static void noWeightCounts() {
        Checks.says("19", "or if no WEIGHT counts.");
        ZoneShares x = Checks.map("ab.", "abc", "012");
        Checks.counts(x, 0, "a=1,b=1");
        weigh(x, 0, "0011");
        Checks.due("misfit(0, 0)", x.misfit(0, 0), -1);
        Checks.due("misfit(0, 1)", x.misfit(0, 1), -1);
        weigh(x, 0, "1011");
        misfit(x, 0, 2, 1);
        weigh(x, 0, "0111");
        misfit(x, 0, 2, 1);
        weigh(x, 0, "0000");
        Checks.due("misfit(0, 0)", x.misfit(0, 0), -1);
        Checks.due("fit(0) all the same", x.fit(0), 2);
        weights(x, 0, "1100");
    }
}
