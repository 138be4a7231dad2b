import java.lang.reflect.Method;
import java.util.ArrayList;
import java.util.Arrays;
import java.util.Comparator;
import java.util.List;
import java.util.Random;

/** Runs of calls, made by chance from set seeds, on the program and on the plain model. */
public final class ModelTest {
    private static final int RUNS = 3000;
    private static final int CALLS = 512;

    private final Random random;
    private final ZoneShares x = new ZoneShares();
    private final Model model = new Model();
    private final List<String> calls = new ArrayList<>();
    private int rows;
    private int columns;
    private int toldLayers;

    private ModelTest(long seed) {
        random = new Random(seed);
        rows = 1 + random.nextInt(seed % 3 == 0 ? 8 : 4);
        columns = 1 + random.nextInt(seed % 3 == 0 ? 12 : 5);
    }

    public static void main(String[] args) throws Exception {
        List<Method> asked = new ArrayList<>();
        for (Method m : ZoneShares.class.getDeclaredMethods()) {
            if (java.lang.reflect.Modifier.isPublic(m.getModifiers())) {
                asked.add(m);
            }
        }
        asked.sort(Comparator.comparing(Method::getName));
        int runs = args.length > 0 ? Integer.parseInt(args[0]) : RUNS;
        int begin = args.length > 1 ? Integer.parseInt(args[1]) : 0;
        for (int seed = begin; seed < begin + runs; seed++) {
            new ModelTest(seed).run(asked);
        }
        Checks.finish("ModelTest");
    }

    private void run(List<Method> asked) throws Exception {
        for (int what = 0; what < 2; what++) {
            ask("settle", what, random.nextInt(2));
        }
        while (calls.size() < CALLS) {
            int kind = random.nextInt(100);
            if (toldLayers < 3 || kind < 4) {
                tellLayer(toldLayers < 3 ? toldLayers++ : random.nextInt(3));
            } else if (kind < 8) {
                tellCounts(random.nextInt(3));
            } else {
                Method m = asked.get(random.nextInt(asked.size()));
                boolean act = "feed end layer counts weigh settle district fit adopt undo".contains(m.getName());
                if (!act || random.nextInt(3) == 0) {
                    Object[] args = new Object[m.getParameterCount()];
                    for (int k = 0; k < args.length; k++) {
                        args[k] = number(m.getName(), k);
                    }
                    ask(m, args);
                }
            }
        }
    }

    private int number(String name, int place) {
        int kind = random.nextInt(60);
        if (kind == 0) {
            return random.nextInt();
        }
        if (kind == 1) {
            return random.nextBoolean() ? Integer.MIN_VALUE : Integer.MAX_VALUE;
        }
        if (kind < 5) {
            return -1 + random.nextInt(3);
        }
        if (kind == 5) {
            return random.nextInt(12);
        }
        return usual(name, place);
    }

    /** A number that stands at this place in most calls. */
    private int usual(String name, int place) {
        switch (name) {
            case "settle":
                return random.nextInt(2);
            case "district":
                return random.nextInt(place == 0 ? 8 : 4);
            case "weigh":
                return place == 0 ? random.nextInt(4) - 1 : random.nextInt(place == 1 ? 4 : 10);
            case "apart":
            case "districtOf":
            case "count":
                return random.nextInt(12);
            case "cell":
            case "surface":
                return random.nextInt(place == 0 ? 3 : place == 3 ? 2 : 12);
            case "piece":
                return place == 0 ? random.nextInt(24) - 4 : random.nextInt(6) - 1;
            case "densest":
                return random.nextInt(place == 0 ? 4 : 30);
            default:
                return random.nextInt(place == 0 ? 3 : random.nextBoolean() ? 3 : 9);
        }
    }

    private void ask(Method m, Object... args) throws Exception {
        calls.add(m.getName() + Arrays.toString(args));
        long got;
        try {
            got = ((Number) m.invoke(x, args)).longValue();
        } catch (java.lang.reflect.InvocationTargetException e) {
            Checks.due(calls + " threw " + e.getCause(), false);
            return;
        }
        Method due = Model.class.getDeclaredMethod(m.getName(), m.getParameterTypes());
        long want = ((Number) due.invoke(model, args)).longValue();
        if (got != want) {
            Checks.due(String.join(" ", calls), got, want);
        } else {
            Checks.due("", true);
        }
    }

    private void ask(String name, int... args) throws Exception {
        Class<?>[] kinds = new Class<?>[args.length];
        Object[] objects = new Object[args.length];
        for (int k = 0; k < args.length; k++) {
            kinds[k] = int.class;
            objects[k] = args[k];
        }
        ask(ZoneShares.class.getMethod(name, kinds), objects);
    }

    private void tellLayer(int what) throws Exception {
        if (random.nextInt(12) == 0) {
            rows = 1 + random.nextInt(8);
            columns = 1 + random.nextInt(12);
        }
        String all = what == 2 ? "0123" : "abcdefgh";
        String signs = all.substring(0, 1 + random.nextInt(all.length()));
        if (what < 2 && random.nextBoolean()) {
            signs = signs + ".";
        }
        StringBuilder text = new StringBuilder();
        for (int row = 0; row < rows; row++) {
            text.append(row > 0 ? "/" : "");
            for (int column = 0; column < columns; column++) {
                // neighbours are often alike, as on a map
                boolean alike = column > 0 && random.nextInt(3) > 0;
                text.append(alike ? text.charAt(text.length() - 1) : signs.charAt(random.nextInt(signs.length())));
            }
        }
        tell(text.toString(), "layer", what, "abcdefgh.0123/i4 ");
    }

    private void tellCounts(int group) throws Exception {
        StringBuilder text = new StringBuilder();
        for (String letter : "a b c d e f g h ?".split(" ")) {
            if (random.nextInt(4) > 0) {
                int most = random.nextBoolean() ? 12 : random.nextBoolean() ? 200 : 10000;
                text.append(text.length() > 0 ? "," : "").append(letter).append("=").append(random.nextInt(most));
            }
        }
        tell(text.toString(), "counts", group, "abh?=,0199 /i");
    }

    private void tell(String told, String name, int what, String spoils) throws Exception {
        StringBuilder text = new StringBuilder(told);
        for (int spoil = random.nextInt(8); spoil > 5; spoil--) {
            int at = random.nextInt(text.length() + 1);
            char sign = spoils.charAt(random.nextInt(spoils.length()));
            int kind = random.nextInt(4);
            if (kind == 0 || text.length() == 0) {
                text.insert(at, sign);
            } else if (kind == 1 && at < text.length()) {
                text.setCharAt(at, sign);
            } else if (kind == 2 && at < text.length()) {
                text.deleteCharAt(at);
            } else {
                text.setLength(at);
            }
        }
        ask("end", 0);
        for (int at = 0; at < text.length(); at += 20) {
            int[] n = new int[5];
            for (int k = 0; k < 20; k++) {
                n[k / 4] = n[k / 4] << 8 | (at + k < text.length() ? text.charAt(at + k) : 0);
            }
            ask("feed", n);
        }
        ask("end", text.length());
        ask(name, what);
    }
}
