import java.lang.reflect.Method;
import java.util.ArrayList;
import java.util.List;

/**
 * Each argument of each call at its limits, with all the others inside theirs: from the first to
 * the last that is taken there is an answer, and none outside; acts that are refused leave all.
 */
public final class ArgumentsTest {
    /** Of each call the limits of its arguments, on the map that made() makes. */
    private static final String[] LIMITS = {"end 0..3", "layer 0..2", "counts 0..2", "weigh -1..2 0..3 0..9",
        "settle 0..1 0..1", "district 0..7 0..3", "fit 0..2", "cell 0..2 0..1 0..8", "piece -1..15 0..3",
        "people 0..2 0..10", "share 0..2 0..7 0..8 0..1", "moved 0..2 -1..7 -1..8", "exact 0..2 0..8 0..2",
        "coarse 0..2 0..3 0..1", "misfit 0..2 0..1", "byWay 0..2 0..7", "returned 0..2 0..8", "astray 0..2",
        "surface 0..2 0..1 0..8 0..1", "densest 0..2 0..17", "dense 0..2 0..7 0..3", "off 0..2", "apart 0..3",
        "count 0..11", "weight 0..2 0..3", "districtOf 0..7"};
    private static final String ACTS = " end layer counts weigh settle district fit ";

    public static void main(String[] args) throws Exception {
        int arguments = 0;
        for (String limits : LIMITS) {
            arguments += call(limits.split(" "));
        }
        int all = 0;
        for (Method m : ZoneShares.class.getMethods()) {
            all += m.getDeclaringClass() == ZoneShares.class && !m.getName().equals("feed") ? m.getParameterCount() : 0;
        }
        Checks.due("the arguments of all calls but feed", arguments, all);
        Checks.finish("ArgumentsTest");
    }

    /** All ZONES, all LANDS, every GROUP; sixteen PIECES; the TAPE has three bytes. */
    private static ZoneShares made() {
        ZoneShares x = Checks.map("abcdefgh./abcdefgh.", "bcdefgha./........a", "012301230/123012301");
        for (int group = 0; group < 3; group++) {
            Checks.counts(x, group, "a=10,d=7,h=5,?=3");
        }
        Checks.tell(x, "h=8");
        return x;
    }

    private static Method method(String name) {
        for (Method m : ZoneShares.class.getMethods()) {
            if (m.getName().equals(name)) {
                return m;
            }
        }
        throw new IllegalArgumentException(name);
    }

    private static long ask(ZoneShares x, Method m, Object... args) {
        try {
            return ((Number) m.invoke(x, args)).longValue();
        } catch (ReflectiveOperationException e) {
            throw new IllegalStateException(m.getName() + " threw", e);
        }
    }

    private static int call(String[] limits) {
        Method m = method(limits[0]);
        int places = limits.length - 1;
        Checks.due("arguments of " + limits[0], places, m.getParameterCount());
        int[] least = new int[places];
        int[] most = new int[places];
        for (int k = 0; k < places; k++) {
            String[] ends = limits[k + 1].split("\\.\\.");
            least[k] = Integer.parseInt(ends[0]);
            most[k] = Integer.parseInt(ends[1]);
        }
        for (int place = 0; place < places; place++) {
            for (int[] others : new int[][] {least, most}) {
                Object[] args = new Object[places];
                for (int k = 0; k < places; k++) {
                    args[k] = others[k];
                }
                inside(m, args, place, least[place], most[place]);
                outside(m, args, place, least[place], most[place]);
            }
        }
        return places;
    }

    private static long none(Method m) {
        return m.getName().equals("dense") || m.getName().equals("off") ? Long.MIN_VALUE : -1;
    }

    private static void inside(Method m, Object[] args, int place, int least, int most) {
        for (int number = least; number <= most; number++) {
            args[place] = number;
            Checks.due(m.getName() + java.util.Arrays.toString(args), ask(made(), m, args) != none(m));
        }
    }

    private static void outside(Method m, Object[] args, int place, int least, int most) {
        List<Integer> numbers = new ArrayList<>(List.of(least - 1, least - 2, most + 1, most + 2, least + 256,
                most - 256, least + 65536, Integer.MIN_VALUE, Integer.MIN_VALUE + 1, Integer.MAX_VALUE - 1,
                Integer.MAX_VALUE, Integer.MIN_VALUE + most, least + (1 << 30)));
        for (int number : numbers) {
            Object[] wrong = args.clone();
            wrong[place] = number;
            String call = m.getName() + java.util.Arrays.toString(wrong);
            Checks.due(call, ask(made(), m, wrong), none(m));
            if (ACTS.contains(" " + m.getName() + " ")) {
                Looks.leaves(call, ArgumentsTest::made, x -> ask(x, m, wrong), -1);
            }
        }
    }
}
