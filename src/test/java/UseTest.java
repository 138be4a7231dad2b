import java.lang.reflect.Array;
import java.lang.reflect.Field;
import java.lang.reflect.Modifier;
import java.util.Collections;
import java.util.IdentityHashMap;
import java.util.Set;
import java.util.function.ToLongFunction;

/** What the document's first lines say of the whole, and all 512 calls of an object. */
public final class UseTest {
    private static final int NONE = ZoneShares.NONE;
    private static final int CALLS = 512;
    /** Eight ROWS of twelve signs: all ZONES, OUT and all LANDS. */
    private static final String[] LARGEST = {rows("abcdefgh.", 12, 7), rows("hgfe.dcba", 12, 5), rows("0123", 12, 3)};
    private static final String[] MOST = {"a=9999,b=9998,c=9997,d=9996,e=9995,f=9994,g=9993,h=9992,?=9991",
        "a=1,b=2,c=3,d=5,e=7,f=11,g=13,h=17,?=19", "h=9999,?=9999"};

    public static void main(String[] args) throws Exception {
        theWhole();
        for (int rounding = 0; rounding < 2; rounding++) {
            allCallsAsked(rounding);
            allCallsTold(rounding);
        }
        tapeToTheLastCall();
        actsToTheLastCall();
        textsToTheLastCall();
        noCallMakesAnObject();
        Checks.finish("UseTest");
    }

    /** Rows of signs, each row begun some signs further on. */
    private static String rows(String signs, int wide, int further) {
        StringBuilder text = new StringBuilder();
        for (int row = 0; row < 8; row++) {
            text.append(row > 0 ? "/" : "");
            for (int column = 0; column < wide; column++) {
                text.append(signs.charAt((row * further + column) % signs.length()));
            }
        }
        return text.toString();
    }

    private static void theWhole() {
        ZoneShares x = Checks.map("aab/abb", "aba/cb.", "012/001");
        Checks.says("What", "three layers of one map, cell by cell;");
        Checks.due("OLD", x.cell(0, 0, 2), 'b');
        Checks.due("NEW", x.cell(1, 1, 2), '.');
        Checks.due("LAND", x.cell(2, 0, 2), '2');
        Checks.says("What", "People counted by old zones moved to new ones:");
        Checks.due("counted", Checks.counts(x, 0, "a=10,b=7,?=5"), 22);
        Checks.due("counted in a", x.people(0, 0), 10);
        Checks.due("moved from a to c", x.moved(0, 0, 2), 3);
        Checks.says("What", "pieces of both zonings and of the land,");
        Checks.due("pieces", x.piece(NONE, 0), 6);
        Checks.due("b, OUT, LAND 1", x.piece(5, 0) * 100 + x.piece(5, 1) * 10 + x.piece(5, 2), 181);
        Checks.says("What", "shares as fractions by weights of the land for each group,");
        x.weigh(1, 0, 3);
        Checks.due("of a to a, for GROUP 0", x.share(0, 0, 0, 0) * 10 + x.share(0, 0, 0, 1), 13);
        Checks.due("of a to a, for GROUP 1", x.share(1, 0, 0, 0) * 10 + x.share(1, 0, 0, 1), 37);
        Checks.says("What", "whole persons by remainders, or balanced so that the new zones come out right, too;");
        Checks.due("by remainders", x.moved(0, 1, 0) * 100 + x.moved(0, 1, 1) * 10 + x.moved(0, 1, 8), 322);
        Checks.due("to a: 17 by 3", x.moved(0, NONE, 0), 7);
        x.settle(0, 1);
        Checks.due("balanced", x.moved(0, 1, 0) * 100 + x.moved(0, 1, 1) * 10 + x.moved(0, 1, 8), 232);
        Checks.due("to a: 17 by 3", x.moved(0, NONE, 0), 6);
        Checks.says("What", "people of unknown zones told, shared or left aside;");
        Checks.due("told", x.people(0, 8), 5);
        Checks.due("left aside", x.people(0, 9), 5);
        x.settle(1, 1);
        Checks.due("shared", x.people(0, 0) * 100 + x.people(0, 1) * 10 + x.people(0, 9), 1390);
        Checks.says("What", "what falls outside;");
        Checks.due("OUT", x.moved(0, NONE, 8), 3);
        theRest(x);
    }

    private static void theRest(ZoneShares x) {
        Checks.says("What", "districts, exact sums beside whole ones, weights fitted to what was counted, densities;");
        x.district(2, 3);
        Checks.due("DISTRICT 3, exactly 13 by 3", x.coarse(0, 3, 0) + 10 * x.coarse(0, 3, 1), 44);
        Checks.due("exactly", x.exact(0, 2, 0) * 100 + x.exact(0, 2, 1) * 10 + x.exact(0, 2, 2), 413);
        Checks.due("whole", x.moved(0, NONE, 2), 4);
        Checks.due("fitted", x.fit(0), 3);
        Checks.due("they fit", x.misfit(0, 0), 0);
        Checks.due("a density, by halves of two CELLS", x.dense(0, 1, 3), x.moved(0, NONE, 1));
        Checks.says("What", "the new zones taken as the old ones;");
        int moved = x.moved(0, NONE, 2);
        int inZones = x.moved(0, NONE, NONE) - x.moved(0, NONE, 8);
        Checks.due("adopted", x.adopt(), inZones);
        Checks.due("signs that are unlike", x.apart(0), 0);
        x.settle(1, 0);
        Checks.due("of c", x.people(0, 2), moved);
        Checks.says("What", "acts undone.");
        Checks.due("the last", x.undo(), 7);
        Checks.due("adopted undone", x.undo(), 6);
        Checks.due("OLD ZONES", x.count(2), 2);
        Checks.due("fitted undone", x.undo(), 5);
        Checks.due("the WEIGHT", x.weight(0, 1), 1);
    }

    private static ZoneShares largest(int rounding) {
        ZoneShares x = Checks.map(LARGEST[0], LARGEST[1], LARGEST[2]);
        for (int group = 0; group < 3; group++) {
            Checks.counts(x, group, MOST[group]);
        }
        for (int zone = 0; zone < 8; zone++) {
            x.district(zone, zone % 4);
        }
        x.settle(0, rounding);
        x.settle(1, 1);
        return x;
    }

    /** What each call answers at first is what it answers as the last of 512. */
    private static void allCallsAsked(int rounding) {
        Checks.says("What", "An object is used for at most 512 calls after it has been made; "
                + "what later calls answer is free.");
        ToLongFunction<ZoneShares>[] asked = asked();
        for (int k = 0; k < asked.length; k++) {
            ZoneShares x = largest(rounding);
            long first = asked[k].applyAsLong(x);
            // making it took less than 100 calls
            for (int call = 100; call < CALLS; call++) {
                Checks.due("call " + k + " again", asked[k].applyAsLong(x), first);
            }
        }
    }

    @SuppressWarnings({"unchecked", "rawtypes"})
    private static ToLongFunction<ZoneShares>[] asked() {
        return new ToLongFunction[] {
            (ToLongFunction<ZoneShares>) x -> x.piece(100, 3),
            (ToLongFunction<ZoneShares>) x -> x.people(0, 0),
            (ToLongFunction<ZoneShares>) x -> x.moved(0, NONE, 3),
            (ToLongFunction<ZoneShares>) x -> x.exact(0, 8, 2),
            (ToLongFunction<ZoneShares>) x -> x.byWay(1, 7),
            (ToLongFunction<ZoneShares>) x -> x.astray(0),
            (ToLongFunction<ZoneShares>) x -> x.surface(2, 7, 11, 0),
            (ToLongFunction<ZoneShares>) x -> x.densest(0, 95),
            (ToLongFunction<ZoneShares>) x -> x.dense(1, 0, 2),
            (ToLongFunction<ZoneShares>) x -> x.off(0),
            (ToLongFunction<ZoneShares>) x -> x.misfit(1, 1),
            (ToLongFunction<ZoneShares>) x -> x.count(10)};
    }

    /** WEIGHTS are told and all is asked anew, again and again: as at first, to the last call. */
    private static void allCallsTold(int rounding) {
        ZoneShares x = largest(rounding);
        long[] first = new long[3];
        int calls = 100;
        for (int turn = 0; calls + 12 <= CALLS; turn++) {
            x.weigh(0, 1, turn % 3 * 4);
            long seen = 0;
            for (int group = 0; group < 3; group++) {
                seen = seen * 100003 + x.returned(group, 8) * 1009L + x.byWay(group, 2) + x.densest(group, 40);
            }
            calls += 10;
            if (turn < 3) {
                first[turn] = seen;
            }
            Checks.due("turn " + turn, seen, first[turn % 3]);
        }
        x.fit(1);
        Checks.due("fitted", x.fit(1), -2);
    }

    private static void tapeToTheLastCall() {
        ZoneShares x = new ZoneShares();
        for (int call = 0; call + 16 <= CALLS; call += 16) {
            for (int full = 20; full <= 200; full += 20) {
                Checks.due("feed", x.feed(1, 2, 3, 4, 5), full);
            }
            Checks.due("no more", x.feed(1, 2, 3, 4, 5), NONE);
            Checks.due("end", x.end(181), 181);
            Checks.due("no more", x.feed(1, 2, 3, 4, 5), NONE);
            Checks.due("end", x.end(180), 180);
            Checks.due("feed", x.feed(1, 2, 3, 4, 5), 200);
            Checks.due("end", x.end(0), 0);
        }
    }

    /** 503 ACTS, of which the last eight can be undone with the last nine calls. */
    private static void actsToTheLastCall() {
        ZoneShares x = new ZoneShares();
        for (int act = 1; act <= CALLS - 9; act++) {
            Checks.due("act " + act, x.weigh(0, 0, weightAfter(act)), weightAfter(act - 1));
        }
        for (int more = 7; more >= 0; more--) {
            Checks.due("undone", x.undo(), more);
        }
        Checks.due("the WEIGHT", x.weight(0, 0), weightAfter(CALLS - 17));
    }

    private static int weightAfter(int act) {
        return (act + 1) % 10;
    }

    /** The largest LAYER told again and again: seven calls each. */
    private static void textsToTheLastCall() {
        ZoneShares x = new ZoneShares();
        int calls = 0;
        for (int turn = 0; calls + 8 <= CALLS; turn++) {
            Checks.due("told", Checks.tell(x, LARGEST[turn % 2]), 103);
            Checks.due("largest", x.layer(0), 96);
            calls += 9;
        }
        Checks.due("sign", x.cell(0, 7, 11), LARGEST[(calls / 9 - 1) % 2].charAt(102));
    }

    /** LANGUAGE.md: all that is kept by an object is there from the first, and it is small. */
    private static void noCallMakesAnObject() throws Exception {
        ZoneShares x = new ZoneShares();
        long[] first = new long[2];
        weigh(x, first, Collections.newSetFromMap(new IdentityHashMap<>()));
        Checks.due("objects and arrays " + first[0], first[0] > 10 && first[0] <= 300);
        Checks.due("fields and elements " + first[1], first[1] > 1000 && first[1] <= 12000);
        for (int what = 0; what < 3; what++) {
            Checks.layer(x, what, LARGEST[what]);
            Checks.counts(x, what, MOST[what]);
        }
        for (int turn = 0; turn < 40; turn++) {
            x.settle(0, turn % 2);
            x.fit(turn % 3);
            x.astray(turn % 3);
            x.byWay(turn % 3, 1);
            x.densest(turn % 3, 1);
            x.adopt();
        }
        long[] last = new long[2];
        weigh(x, last, Collections.newSetFromMap(new IdentityHashMap<>()));
        Checks.due("objects and arrays", last[0], first[0]);
        Checks.due("fields and elements", last[1], first[1]);
    }

    /** Counts an object with all that it holds: how many there are, and their fields and elements. */
    private static void weigh(Object object, long[] sums, Set<Object> seen) throws Exception {
        if (object == null || !seen.add(object)) {
            return;
        }
        sums[0]++;
        if (object.getClass().isArray()) {
            sums[1] += Array.getLength(object);
            for (int k = 0; k < Array.getLength(object) && object instanceof Object[]; k++) {
                weigh(Array.get(object, k), sums, seen);
            }
            return;
        }
        for (Field field : object.getClass().getDeclaredFields()) {
            if (!Modifier.isStatic(field.getModifiers())) {
                sums[1]++;
                field.setAccessible(true);
                if (!field.getType().isPrimitive()) {
                    weigh(field.get(object), sums, seen);
                }
            }
        }
    }
}
