import java.lang.reflect.InvocationTargetException;
import java.lang.reflect.Method;
import java.lang.reflect.Modifier;
import java.util.Random;

/** No call ever throws, whatever its arguments and the state; what a run makes stays small. */
public final class WildTest {
    private static final int[] ENDS = {Integer.MIN_VALUE, Integer.MIN_VALUE + 1, -97, -9, -2, -1, 0, 1, 2, 3, 4, 7, 8,
        9, 11, 12, 31, 32, 33, 95, 96, 97, 200, 9999, 10000, Integer.MAX_VALUE - 1, Integer.MAX_VALUE};
    private static final String WIDE = "abcdefgh.abc/bcdefgh.abcd/cdefgh.abcde/defgh.abcdef/"
            + "efgh.abcdefg/fgh.abcdefgh/gh.abcdefgh./h.abcdefgh.a";
    private static final String MOST = "a=9999,b=9999,c=9999,d=9999,e=9999,f=9999,g=9999,h=9999,?=9999";

    public static void main(String[] args) throws Exception {
        for (int seed = 0; seed < 400; seed++) {
            callAll(state(seed), new Random(seed));
        }
        Checks.finish("WildTest");
    }

    private static ZoneShares state(int seed) {
        ZoneShares x = new ZoneShares();
        String land = WIDE.replaceAll("[a-c]", "0").replaceAll("[d-f]", "1").replaceAll("[gh]", "2").replace('.', '3');
        String[][] layers = {{}, {"a"}, {"ab", ".."}, {"...", "...", "000"}, {"abc", "...", "012"},
            {"...", "abc", "012"}, {"a", "a", "0"}, {WIDE, WIDE.replace('a', '.'), land},
            {WIDE, new StringBuilder(WIDE).reverse().toString(), land}};
        String[] told = layers[seed % layers.length];
        for (int what = 0; what < told.length; what++) {
            Checks.layer(x, what, told[what]);
        }
        for (int group = 0; group < 3; group++) {
            Checks.counts(x, group, group == 0 ? MOST : group == 1 ? "?=9999" : "a=1,h=1");
        }
        x.settle(0, seed / 10 % 2);
        x.settle(1, seed / 20 % 2);
        for (int zone = 0; zone < 8; zone++) {
            x.district(zone, zone * seed % 4);
        }
        for (int land4 = 0; land4 < 4 && seed % 3 > 0; land4++) {
            x.weigh(-1, land4, seed % 3 == 1 ? 0 : 9 - land4 * 2);
        }
        return x;
    }

    private static void callAll(ZoneShares x, Random random) throws Exception {
        for (Method method : ZoneShares.class.getDeclaredMethods()) {
            for (int turn = 0; Modifier.isPublic(method.getModifiers()) && turn < 15; turn++) {
                Object[] args = new Object[method.getParameterCount()];
                StringBuilder call = new StringBuilder(method.getName());
                for (int k = 0; k < args.length; k++) {
                    args[k] = ENDS[random.nextInt(ENDS.length)];
                    call.append(' ').append(args[k]);
                }
                try {
                    method.invoke(x, args);
                    Checks.due("", true);
                } catch (InvocationTargetException e) {
                    Checks.due(call + " threw " + e.getCause(), false);
                }
            }
        }
    }
}
