import java.util.ArrayList;
import java.util.List;
import java.util.function.Consumer;
import java.util.function.Supplier;
import java.util.function.ToLongFunction;

/** Each sentence of promises 6, 7, 8, 11, 29 and 30, of WEIGHTS, DISTRICTS and ACTS in the Terms. */
public final class ActsEdgesTest {
    private static final int[] FAR = {-3, 5, 10, 255, 256, 1 << 16, Integer.MIN_VALUE, Integer.MIN_VALUE + 1,
        Integer.MAX_VALUE - 1, Integer.MAX_VALUE};

    public static void main(String[] args) {
        weightsAtFirst();
        districtsAtFirst();
        aWeight();
        ofAllGroups();
        weightThatIsSo();
        otherWeights();
        aSetting();
        settingThatIsSo();
        otherSettings();
        aDistrict();
        districtItIsIn();
        otherDistricts();
        whatIsAnAct();
        whatIsNone();
        theLastEight();
        theLastFirst();
        allIsAsAhead();
        howManyMore();
        noneCanBe();
        askedWeights();
        askedDistricts();
        Checks.finish("ActsEdgesTest");
    }

    private static void weightsAtFirst() {
        Checks.says("I", "WEIGHTS of GROUPS for LANDS, 0 to 9 (1 each at first).");
        ZoneShares x = new ZoneShares();
        for (int group = 0; group < 3; group++) {
            for (int land = 0; land < 4; land++) {
                Checks.due("at first", x.weight(group, land), 1);
                int was = 1;
                for (int weight : new int[] {0, 1, 2, 3, 4, 5, 6, 7, 8, 9}) {
                    Checks.due("weigh(" + group + ", " + land + ", " + weight + ")", x.weigh(group, land, weight),
                            weight == was ? -2 : was);
                    was = weight;
                    Checks.due("the WEIGHT", x.weight(group, land), weight);
                }
                Checks.due("WEIGHT 10", x.weigh(group, land, 10), -1);
                Checks.due("WEIGHT -1", x.weigh(group, land, -1), -1);
                Checks.due("the WEIGHT", x.weight(group, land), 9);
            }
        }
    }

    private static void districtsAtFirst() {
        Checks.says("I", "Each NEW ZONE is in a DISTRICT, 0 to 3 (0 at first).");
        ZoneShares x = new ZoneShares();
        for (int zone = 0; zone < 8; zone++) {
            Checks.due("at first", x.districtOf(zone), 0);
            for (int district : new int[] {3, 2, 1, 0, 3}) {
                Checks.due("district(" + zone + ", " + district + ")", x.district(zone, district) >= 0);
                Checks.due("the DISTRICT", x.districtOf(zone), district);
            }
            Checks.due("DISTRICT 4", x.district(zone, 4), -1);
            Checks.due("DISTRICT -1", x.district(zone, -1), -1);
            Checks.due("the DISTRICT", x.districtOf(zone), 3);
        }
    }

    private static void aWeight() {
        Checks.says("6", "A WEIGHT is told");
        ZoneShares x = new ZoneShares();
        for (int group = 0; group < 3; group++) {
            for (int land = 0; land < 4; land++) {
                Checks.due("what it was", x.weigh(group, land, 2 + group + land), 1);
            }
        }
        for (int group = 0; group < 3; group++) {
            for (int land = 0; land < 4; land++) {
                Checks.due("of one GROUP and LAND alone", x.weight(group, land), 2 + group + land);
            }
        }
    }

    private static void ofAllGroups() {
        Checks.says("6", "(group NONE: of all GROUPS): what it was (of GROUP 0, for all);");
        for (int land = 0; land < 4; land++) {
            ZoneShares x = new ZoneShares();
            x.weigh(0, land, 3);
            x.weigh(1, land, 5);
            x.weigh(2, land, 7);
            Checks.due("of GROUP 0", x.weigh(-1, land, 5), 3);
            for (int group = 0; group < 3; group++) {
                for (int other = 0; other < 4; other++) {
                    Checks.due("weight", x.weight(group, other), other == land ? 5 : 1);
                }
            }
            Checks.due("one ACT for all", x.count(8), 4);
            Checks.due("undo()", x.undo(), 3);
            Checks.due("as it was", x.weight(0, land) + 10 * x.weight(1, land) + 100 * x.weight(2, land), 753);
        }
    }

    private static void weightThatIsSo() {
        Checks.says("6", "-2, and nothing happens: it is so (for all);");
        for (int group = -1; group < 3; group++) {
            for (int land = 0; land < 4; land++) {
                int one = group;
                int of = land;
                boolean so = !(land == 1 && (group == -1 || group == 1));
                if (so) {
                    Looks.leaves("weigh(" + group + ", " + land + ", 1)", Looks::told, x -> x.weigh(one, of, 1), -2);
                }
            }
        }
        // so for one or two, but not for all
        for (int odd = 0; odd < 3; odd++) {
            ZoneShares x = new ZoneShares();
            x.weigh(odd, 2, 8);
            Checks.due("not so for " + odd, x.weigh(-1, 2, 1), odd == 0 ? 8 : 1);
            Checks.due("an ACT", x.count(8), 2);
            Checks.due("now it is", x.weigh(-1, 2, 1), -2);
            Checks.due("for all", x.weight(odd, 2), 1);
            x.weigh(-1, 2, 8);
            x.weigh(odd, 2, 1);
            Checks.due("so for " + odd + " alone", x.weigh(-1, 2, 1), odd == 0 ? 1 : 8);
        }
        Looks.leaves("weigh(1, 1, 4)", Looks::told, x -> x.weigh(1, 1, 4), -2);
    }

    private static void otherWeights() {
        Checks.says("6", "NONE, and nothing happens, for others (LAND 0 to 3, WEIGHT 0 to 9).");
        ZoneShares x = Looks.told();
        for (int group = -3; group <= 4; group++) {
            for (int land = -2; land <= 5; land++) {
                for (int weight = -2; weight <= 11; weight++) {
                    boolean there = group >= -1 && group <= 2 && land >= 0 && land <= 3 && weight >= 0 && weight <= 9;
                    Checks.due("weigh(" + group + ", " + land + ", " + weight + ")",
                            (x.weigh(group, land, weight) == -1) != there);
                }
            }
        }
        List<int[]> others = new ArrayList<>(List.of(new int[] {-2, 0, 5}, new int[] {3, 0, 5}, new int[] {0, -1, 5},
                new int[] {0, 4, 5}, new int[] {0, 0, -1}, new int[] {0, 0, 10}, new int[] {-1, -1, 5},
                new int[] {-1, 4, 5}, new int[] {-1, 0, -1}, new int[] {-1, 0, 10}, new int[] {3, 4, 10}));
        for (int far : FAR) {
            others.add(new int[] {far, 0, 5});
            others.add(new int[] {0, far, 5});
            others.add(new int[] {0, 0, far == 5 ? -9 : far});
        }
        for (int[] n : others) {
            Looks.leaves("weigh(" + n[0] + ", " + n[1] + ", " + n[2] + ")", Looks::told,
                    y -> y.weigh(n[0], n[1], n[2]), -1);
        }
    }

    private static void aSetting() {
        Checks.says("7", "A SETTING is told (what 0: ROUNDING, 1: UNKNOWN): what it was;");
        ZoneShares x = new ZoneShares();
        Checks.due("settle(0, 1)", x.settle(0, 1), 0);
        Checks.due("ROUNDING", x.count(5), 1);
        Checks.due("UNKNOWN", x.count(6), 0);
        Checks.due("settle(1, 1)", x.settle(1, 1), 0);
        Checks.due("UNKNOWN", x.count(6), 1);
        Checks.due("settle(0, 0)", x.settle(0, 0), 1);
        Checks.due("ROUNDING", x.count(5), 0);
        Checks.due("UNKNOWN", x.count(6), 1);
        Checks.due("settle(1, 0)", x.settle(1, 0), 1);
        Checks.due("UNKNOWN", x.count(6), 0);
        // what hangs on it is another at once
        ZoneShares y = Checks.map("aabb", "abab", "0000");
        Checks.counts(y, 0, "a=1,b=1,?=2");
        Checks.due("by REMAINDERS", y.moved(0, -1, 0), 2);
        y.settle(0, 1);
        Checks.due("BALANCED", y.moved(0, -1, 0), 1);
        y.settle(1, 1);
        Checks.due("SHARED", y.moved(0, -1, 0), 2);
        y.settle(0, 0);
        Checks.due("by REMAINDERS", y.moved(0, -1, 0), 2);
    }

    private static void settingThatIsSo() {
        Checks.says("7", "-2, and nothing happens: it is so;");
        for (int what = 0; what < 2; what++) {
            int one = what;
            Looks.leaves("settle(" + what + ", 0)", Looks::told, x -> x.settle(one, 0), -2);
            Supplier<ZoneShares> settled = () -> {
                ZoneShares x = Looks.told();
                x.settle(one, 1);
                return x;
            };
            Looks.leaves("settle(" + what + ", 1)", settled, x -> x.settle(one, 1), -2);
        }
    }

    private static void otherSettings() {
        Checks.says("7", "NONE, and nothing happens, for others (0, 1).");
        for (int far : FAR) {
            Looks.leaves("settle(" + far + ", 1)", Looks::told, x -> x.settle(far, 1), -1);
            Looks.leaves("settle(0, " + far + ")", Looks::told, x -> x.settle(0, far), -1);
            Looks.leaves("settle(1, " + far + ")", Looks::told, x -> x.settle(1, far), -1);
        }
        for (int[] n : new int[][] {{-1, 0}, {-1, 1}, {2, 0}, {2, 1}, {0, -1}, {0, 2}, {1, -1}, {1, 2}, {2, 2}}) {
            Looks.leaves("settle(" + n[0] + ", " + n[1] + ")", Looks::told, x -> x.settle(n[0], n[1]), -1);
        }
    }

    private static void aDistrict() {
        Checks.says("8", "A NEW ZONE (0 to 7) comes into a DISTRICT (0 to 3): the one in which it was;");
        ZoneShares x = new ZoneShares();
        for (int zone = 0; zone < 8; zone++) {
            Checks.due("district(" + zone + ", 3)", x.district(zone, 3), 0);
            Checks.due("district(" + zone + ", 1)", x.district(zone, 1), 3);
            Checks.due("district(" + zone + ", 2)", x.district(zone, 2), 1);
            Checks.due("district(" + zone + ", 0)", x.district(zone, 0), 2);
            if (zone % 4 > 0) {
                x.district(zone, zone % 4);
            }
        }
        for (int zone = 0; zone < 8; zone++) {
            Checks.due("that ZONE alone", x.districtOf(zone), zone % 4);
        }
    }

    private static void districtItIsIn() {
        Checks.says("8", "-2, and nothing happens: it is in it;");
        for (int zone = 0; zone < 8; zone++) {
            int one = zone;
            Looks.leaves("district(" + zone + ", 0)", Looks::told, x -> x.district(one, 0), -2);
            for (int district = 1; district < 4; district++) {
                int into = district;
                Supplier<ZoneShares> made = () -> {
                    ZoneShares x = Looks.told();
                    x.district(one, into);
                    return x;
                };
                Looks.leaves("district(" + zone + ", " + district + ")", made, x -> x.district(one, into), -2);
            }
        }
    }

    private static void otherDistricts() {
        Checks.says("8", "NONE, and nothing happens, for others.");
        for (int far : FAR) {
            Looks.leaves("district(" + far + ", 1)", Looks::told, x -> x.district(far == 5 ? 9 : far, 1), -1);
            Looks.leaves("district(0, " + far + ")", Looks::told, x -> x.district(0, far), -1);
        }
        for (int[] n : new int[][] {{-1, 1}, {8, 1}, {0, -1}, {0, 4}, {7, -1}, {7, 4}, {8, 0}, {-1, 0}, {8, 4}}) {
            Looks.leaves("district(" + n[0] + ", " + n[1] + ")", Looks::told, x -> x.district(n[0], n[1]), -1);
        }
    }

    /** An ACT of each kind that can be done behind Looks.told(), whose tape is told anew. */
    private static List<Consumer<ZoneShares>> acts() {
        return List.of(x -> retell(x, 0, "aab/abc"), x -> retell(x, 0, "ab/ca/b."), x -> retell(x, 1, "bbb/..."),
                x -> retell(x, 2, "321/321"), x -> recount(x, 0, "b=9,?=2"), x -> recount(x, 2, "a=1,b=2,c=4,d=8,e=16,f=32,g=64,h=128,?=256"),
                x -> x.weigh(0, 2, 9), x -> x.weigh(-1, 1, 0), x -> x.settle(0, 1), x -> x.settle(1, 1),
                x -> x.district(1, 3), x -> x.fit(0), x -> x.adopt());
    }

    private static void retell(ZoneShares x, int what, String text) {
        x.end(0);
        Checks.layer(x, what, text);
    }

    private static void recount(ZoneShares x, int group, String text) {
        x.end(0);
        Checks.counts(x, group, text);
    }

    private static void whatIsAnAct() {
        Checks.says("II", "ACTS: a LAYER, COUNTS, a WEIGHT, a SETTING, a DISTRICT, FITTED, ADOPTED.");
        for (Consumer<ZoneShares> act : acts()) {
            ZoneShares x = Looks.told();
            int before = x.count(8);
            act.accept(x);
            Checks.due("one ACT more", x.count(8), before + 1);
        }
        // an ACT that tells what is so already is one all the same
        ZoneShares x = Checks.map("ab", "ab", "01");
        retell(x, 0, "ab");
        retell(x, 2, "01");
        recount(x, 0, "");
        x.adopt();
        Checks.due("ACTS", x.count(8), 7);
    }

    private static void whatIsNone() {
        ZoneShares x = Looks.told();
        x.feed(1, 2, 3, 4, 5);
        x.end(0);
        x.layer(0);
        x.counts(0);
        Checks.due("the TAPE, a FAULT, and COUNTS of nobody", x.count(8), 7);
        x.weigh(0, 0, 1);
        x.settle(0, 0);
        x.district(0, 0);
        x.fit(2);
        x.layer(3);
        x.counts(3);
        Looks.look(x);
        Checks.due("what is so already, what is refused, what is asked", x.count(8), 7);
        x.undo();
        Checks.due("undo() is none", x.count(8), 6);
    }

    private static ZoneShares weighed(int acts) {
        ZoneShares x = new ZoneShares();
        for (int k = 0; k < acts; k++) {
            x.weigh(k / 40 % 3, k / 10 % 4, k % 10 == 1 ? 0 : (k + 9) % 10);
        }
        return x;
    }

    private static void theLastEight() {
        Checks.says("II", "The last 8 can be UNDONE,");
        for (int acts = 0; acts <= 40; acts++) {
            ZoneShares x = new ZoneShares();
            for (int k = 1; k <= acts; k++) {
                x.weigh(0, 0, k % 10 == 1 ? 0 : (k + 3) % 9 + 1);
            }
            int most = Math.min(8, x.count(8));
            int undone = 0;
            while (x.undo() >= 0 && undone < 100) {
                undone++;
            }
            Checks.due("undone behind " + acts, undone, most);
        }
        for (int acts = 7; acts <= 10; acts++) {
            ZoneShares x = new ZoneShares();
            for (int k = 0; k < acts; k++) {
                x.settle(0, (k + 1) % 2);
            }
            Checks.due("count(8) behind " + acts, x.count(8), Math.min(8, acts));
            for (int k = 0; k < 8; k++) {
                x.undo();
            }
            Checks.due("the first that can't be", x.count(5), acts <= 8 ? 0 : acts % 2);
            Checks.due("none more", x.undo(), -1);
        }
    }

    private static void theLastFirst() {
        Checks.says("II", "the last first:");
        ZoneShares x = new ZoneShares();
        int[] told = {2, 5, 3, 9, 0, 4, 7, 8, 6, 1, 9, 2, 0, 5};
        for (int turn = 0; turn < 4; turn++) {
            for (int weight : told) {
                x.weigh(0, 1, weight);
            }
            for (int k = told.length - 2; k >= told.length - 9; k--) {
                x.undo();
                Checks.due("the one ahead of it", x.weight(0, 1), told[k]);
            }
            Checks.due("none more", x.undo(), -1);
            Checks.due("as it is", x.weight(0, 1), told[told.length - 9]);
        }
        // acts of several kinds: each undoes its own
        x = new ZoneShares();
        x.settle(0, 1);
        x.weigh(0, 0, 5);
        x.district(2, 3);
        x.settle(1, 1);
        x.undo();
        Checks.due("UNKNOWN", x.count(6), 0);
        Checks.due("the DISTRICT stays", x.districtOf(2), 3);
        x.undo();
        Checks.due("the DISTRICT", x.districtOf(2), 0);
        Checks.due("the WEIGHT stays", x.weight(0, 0), 5);
        x.undo();
        Checks.due("the WEIGHT", x.weight(0, 0), 1);
        Checks.due("ROUNDING stays", x.count(5), 1);
        x.undo();
        Checks.due("ROUNDING", x.count(5), 0);
    }

    private static void allIsAsAhead() {
        Checks.says("II", "all is as ahead of it (but for the TAPE).");
        int number = 0;
        for (Consumer<ZoneShares> act : acts()) {
            ToLongFunction<ZoneShares> done = x -> {
                act.accept(x);
                return x.undo();
            };
            boolean tape = number < 6;
            Looks.same("ACT " + number, Looks::told, done, 6, x -> x.end(tape ? 0 : 3));
            // and the TAPE is as it is behind the ACT: what comes on it later stays
            ToLongFunction<ZoneShares> fed = x -> {
                act.accept(x);
                x.end(0);
                Checks.tell(x, "a=8");
                return x.undo();
            };
            Looks.same("ACT " + number, Looks::told, fed, 6, x -> {
                x.end(0);
                Checks.tell(x, "a=8");
            });
            number++;
        }
        // with the answers asked for between
        for (Consumer<ZoneShares> act : acts()) {
            ZoneShares x = Looks.told();
            String before = Looks.look(x).substring(20);
            act.accept(x);
            x.moved(0, 0, 0);
            x.byWay(0, 0);
            x.returned(0, 0);
            x.densest(0, 0);
            x.undo();
            x.end(0);
            Checks.tell(x, "h=5");
            Checks.due("asked between", Looks.look(x).substring(20).equals(before));
        }
        // each number that can be told
        for (int group = 0; group < 3; group++) {
            for (char sign : "abcdefgh?".toCharArray()) {
                ZoneShares x = Checks.map("abcdefgh", "hgfedcba", "01230123");
                recount(x, group, sign + "=5");
                recount(x, group, "");
                x.undo();
                Checks.due("COUNTS of " + sign, x.people(group, sign == '?' ? 8 : sign - 'a'), 5);
                x.undo();
                Checks.due("nobody", x.people(group, 10), 0);
            }
        }
        // UNDONE, and then another ACT in its place
        ZoneShares x = Looks.told();
        x.settle(0, 1);
        x.undo();
        x.settle(1, 1);
        Checks.due("ROUNDING is not told", x.count(5), 0);
        x.undo();
        Checks.due("ACTS", x.count(8), 6);
        Looks.alike("two in one place", x, Looks.told());
    }

    private static void howManyMore() {
        Checks.says("11", "The last ACT is UNDONE: how many more can be;");
        for (int acts = 1; acts <= 20; acts++) {
            ZoneShares x = weighed(acts);
            int can = x.count(8);
            for (int more = can - 1; more >= 0; more--) {
                Checks.due("undo() with " + can, x.undo(), more);
                Checks.due("count(8)", x.count(8), more);
            }
            Checks.due("undo() with none", x.undo(), -1);
        }
        ZoneShares x = weighed(20);
        Checks.due("undo() behind many", x.undo(), 7);
        x.settle(0, 1);
        Checks.due("an ACT more", x.count(8), 8);
        Checks.due("undo()", x.undo(), 7);
        Checks.due("undo()", x.undo(), 6);
        x.settle(0, 1);
        x.settle(1, 1);
        x.settle(1, 0);
        Checks.due("not more than 8", x.count(8), 8);
    }

    private static void noneCanBe() {
        Checks.says("11", "NONE, and nothing happens, if none can.");
        Looks.leaves("undo() of a new object", ZoneShares::new, x -> x.undo(), -1);
        Supplier<ZoneShares> undone = () -> {
            ZoneShares x = Looks.told();
            x.settle(0, 1);
            x.settle(1, 1);
            x.district(0, 1);
            x.weigh(0, 0, 4);
            for (int k = 0; k < 8; k++) {
                x.undo();
            }
            return x;
        };
        ZoneShares x = undone.get();
        // ten acts: NEW, LAND, two COUNTS, the WEIGHT and these four can be but two of them
        Checks.due("LAYERS that stay", x.count(7), 3);
        Looks.leaves("undo() with none", undone, y -> y.undo(), -1);
    }

    private static void askedWeights() {
        Checks.says("29", "The WEIGHT of a GROUP for a LAND;");
        ZoneShares x = new ZoneShares();
        for (int k = 0; k < 12; k++) {
            x.weigh(k / 4, k % 4, (k + 2) % 10);
        }
        for (int k = 0; k < 12; k++) {
            Checks.due("weight", x.weight(k / 4, k % 4), (k + 2) % 10);
        }
        Checks.says("29", "NONE without these.");
        for (int group = -3; group <= 5; group++) {
            for (int land = -3; land <= 6; land++) {
                boolean there = group >= 0 && group <= 2 && land >= 0 && land <= 3;
                Checks.due("weight(" + group + ", " + land + ")", (x.weight(group, land) == -1) != there);
            }
        }
        for (int far : FAR) {
            Checks.due("weight(" + far + ", 0)", x.weight(far, 0), -1);
            Checks.due("weight(0, " + far + ")", x.weight(0, far), -1);
        }
    }

    private static void askedDistricts() {
        Checks.says("30", "The DISTRICT of a NEW ZONE (0 to 7);");
        ZoneShares x = new ZoneShares();
        for (int zone = 0; zone < 8; zone++) {
            x.district(zone, (zone + 1) % 4);
        }
        for (int zone = 0; zone < 8; zone++) {
            Checks.due("districtOf(" + zone + ")", x.districtOf(zone), (zone + 1) % 4);
        }
        Checks.says("30", "NONE without it.");
        for (int zone : new int[] {-2, -1, 8, 9, 256, 1 << 16, Integer.MIN_VALUE, Integer.MAX_VALUE}) {
            Checks.due("districtOf(" + zone + ")", x.districtOf(zone), -1);
        }
    }
}
