import java.lang.reflect.Method;
import java.lang.reflect.Modifier;
import java.util.Arrays;

/**
 * Every asking call with every mix of arguments inside and just outside their limits. An object
 * is asked more often than the document's 512 times: no answer here hangs on how often.
 */
public final class LimitsTest {
    private static final String ASKING = " cell piece people share moved exact coarse misfit byWay"
            + " returned astray surface densest dense off apart count weight districtOf ";
    private static final int[] NUMBERS = {-2, -1, 0, 1, 2, 3, 4, 7, 8, 9, 10, 11, 12};

    private final ZoneShares x = new ZoneShares();
    private final Model model = new Model();

    public static void main(String[] args) throws Exception {
        int calls = 0;
        for (String told : new String[] {"", "aab/a.b|aba/cb.", "aab/a.b|aba/cb.|012/001"}) {
            LimitsTest test = new LimitsTest();
            calls += test.sweep();
            test.tell(told);
            test.sweep();
        }
        Checks.due("the calls that ask", calls, 3 * 19);
        Checks.finish("LimitsTest");
    }

    /** Tells the layers and then the counts of group 0. */
    private void tell(String layers) throws Exception {
        String[] texts = layers.split("\\|");
        for (int what = 0; what < texts.length; what++) {
            tape(texts[what]);
            Checks.due("layer(" + what + ")", x.layer(what), model.layer(what));
        }
        tape("a=10,b=7,?=5");
        Checks.due("counts(0)", x.counts(0), model.counts(0));
        Checks.due("settle(0, 1)", x.settle(0, 1), model.settle(0, 1));
    }

    private void tape(String text) {
        Checks.tell(x, text);
        byte[] bytes = Arrays.copyOf(text.getBytes(java.nio.charset.StandardCharsets.ISO_8859_1), 20);
        java.nio.ByteBuffer n = java.nio.ByteBuffer.wrap(bytes);
        model.feed(n.getInt(), n.getInt(), n.getInt(), n.getInt(), n.getInt());
        model.end(text.length());
    }

    private int sweep() throws Exception {
        int calls = 0;
        for (Method m : ZoneShares.class.getDeclaredMethods()) {
            if (Modifier.isPublic(m.getModifiers()) && ASKING.contains(" " + m.getName() + " ")) {
                calls++;
                ask(m, new Object[m.getParameterCount()], 0);
            }
        }
        return calls;
    }

    private void ask(Method m, Object[] args, int place) throws Exception {
        if (place == args.length) {
            Method due = Model.class.getDeclaredMethod(m.getName(), m.getParameterTypes());
            Checks.due(m.getName() + Arrays.toString(args), ((Number) m.invoke(x, args)).longValue(),
                    ((Number) due.invoke(model, args)).longValue());
            return;
        }
        for (int number : NUMBERS) {
            args[place] = number;
            ask(m, args, place + 1);
        }
    }
}
