import java.math.BigInteger;
import java.util.ArrayList;
import java.util.Arrays;
import java.util.List;

/**
 * The document once more, made as plainly as can be, without any thought of speed:
 * nothing is kept, every answer is worked out anew; balanced tables are found by search.
 */
final class Model {
    private static final class World implements Cloneable {
        String[][] layers = new String[3][];
        int[][] counts = new int[3][9];
        int[][] weights = {{1, 1, 1, 1}, {1, 1, 1, 1}, {1, 1, 1, 1}};
        int rounding = 0;
        int unknown = 0;
        int[] districts = new int[8];

        World another() {
            World w = new World();
            for (int k = 0; k < 3; k++) {
                w.layers[k] = layers[k] == null ? null : layers[k].clone();
                w.counts[k] = counts[k].clone();
                w.weights[k] = weights[k].clone();
            }
            w.rounding = rounding;
            w.unknown = unknown;
            w.districts = districts.clone();
            return w;
        }
    }

    /** Whole persons of some rows to some columns, with what falls there as n[i][j] by d[i]. */
    private static final class Grid {
        long[][] n;
        long[] d;
        long[][] given;

        long column(int j) {
            long sum = 0;
            for (long[] row : given) {
                sum += row[j];
            }
            return sum;
        }
    }

    private World w = new World();
    private final List<World> past = new ArrayList<>();
    private String tape = "";

    private void act() {
        past.add(w.another());
        if (past.size() > 8) {
            past.remove(0);
        }
    }

    // ---- the tape and the acts

    int feed(int a, int b, int c, int d, int e) {
        if (tape.length() > 180) {
            return -1;
        }
        for (int n : new int[] {a, b, c, d, e}) {
            for (int k = 3; k >= 0; k--) {
                tape += (char) (n >> 8 * k & 255);
            }
        }
        return tape.length();
    }

    int end(int n) {
        if (n < 0 || n > tape.length()) {
            return -1;
        }
        tape = tape.substring(0, n);
        return n;
    }

    int layer(int what) {
        if (what < 0 || what > 2 || what > 0 && w.layers[0] == null) {
            return -1;
        }
        String text = tape;
        tape = "";
        int fault = layerFault(text, what);
        if (fault >= 0) {
            return -2 - fault;
        }
        act();
        String[] rows = text.split("/");
        if (what == 0 && w.layers[0] != null
                && (rows.length != w.layers[0].length || rows[0].length() != w.layers[0][0].length())) {
            w.layers[1] = null;
            w.layers[2] = null;
        }
        w.layers[what] = rows;
        return rows.length * rows[0].length();
    }

    private int layerFault(String text, int what) {
        String signs = what == 2 ? "0123" : ".abcdefgh";
        int width = what == 0 ? -1 : w.layers[0][0].length();
        int height = what == 0 ? -1 : w.layers[0].length;
        for (int p = 0; p <= text.length(); p++) {
            String ahead = text.substring(0, p);
            int row = (int) ahead.chars().filter(c -> c == '/').count();
            int filled = p - (ahead.lastIndexOf('/') + 1);
            int need = width >= 0 ? width : row > 0 ? ahead.indexOf('/') : -1;
            boolean over = p == text.length();
            char c = over ? 0 : text.charAt(p);
            boolean sign = !over && signs.indexOf(c) >= 0;
            boolean slash = !over && c == '/';
            List<Integer> faults = new ArrayList<>();
            if (filled == 0 && !sign || !over && !sign && !slash) {
                faults.add(1);
            }
            if ((over || slash) && filled < need) {
                faults.add(2);
            }
            if (sign && filled >= (need >= 0 ? need : 12) || slash && row + 1 == (height >= 0 ? height : 8)) {
                faults.add(3);
            }
            if (over && height >= 0 && row + 1 < height) {
                faults.add(4);
            }
            if (!faults.isEmpty()) {
                return 8 * p + faults.stream().min(Integer::compare).get();
            }
        }
        return -1;
    }

    int counts(int group) {
        if (group < 0 || group > 2) {
            return -1;
        }
        String text = tape;
        tape = "";
        int[] told = new int[9];
        int fault = countsFault(text, told);
        if (fault >= 0) {
            return -2 - fault;
        }
        act();
        w.counts[group] = told;
        return Arrays.stream(told).sum();
    }

    private int countsFault(String text, int[] told) {
        String seen = "";
        int p = 0;
        String t = text + (char) 0;
        while (text.length() > 0) {
            char letter = t.charAt(p);
            int slot = "abcdefgh?".indexOf(letter);
            if (slot < 0) {
                return 8 * p + 1;
            }
            if (seen.indexOf(letter) >= 0) {
                return 8 * p + 3;
            }
            seen += letter;
            if (t.charAt(p + 1) != '=') {
                return 8 * (p + 1) + 1;
            }
            int q = p + 2;
            while ("0123456789".indexOf(t.charAt(q)) >= 0) {
                q++;
            }
            if (q == p + 2) {
                return 8 * q + 1;
            }
            BigInteger number = new BigInteger(text.substring(p + 2, q));
            if (number.compareTo(BigInteger.valueOf(9999)) > 0) {
                return 8 * (p + 2) + 2;
            }
            told[slot] = number.intValue();
            if (q == text.length()) {
                return -1;
            }
            if (t.charAt(q) != ',') {
                return 8 * q + 1;
            }
            p = q + 1;
        }
        return -1;
    }

    int weigh(int group, int land, int weight) {
        if (group < -1 || group > 2 || land < 0 || land > 3 || weight < 0 || weight > 9) {
            return -1;
        }
        World next = w.another();
        for (int g = 0; g < 3; g++) {
            if (group == -1 || group == g) {
                next.weights[g][land] = weight;
            }
        }
        if (Arrays.deepEquals(next.weights, w.weights)) {
            return -2;
        }
        act();
        int was = w.weights[Math.max(0, group)][land];
        w = next;
        return was;
    }

    int settle(int what, int value) {
        if (what < 0 || what > 1 || value < 0 || value > 1) {
            return -1;
        }
        int was = what == 0 ? w.rounding : w.unknown;
        if (was == value) {
            return -2;
        }
        act();
        if (what == 0) {
            w.rounding = value;
        } else {
            w.unknown = value;
        }
        return was;
    }

    int district(int zone, int district) {
        if (zone < 0 || zone > 7 || district < 0 || district > 3) {
            return -1;
        }
        int was = w.districts[zone];
        if (was == district) {
            return -2;
        }
        act();
        w.districts[zone] = district;
        return was;
    }

    int undo() {
        if (past.isEmpty()) {
            return -1;
        }
        w = past.remove(past.size() - 1);
        return past.size();
    }

    int adopt() {
        if (!whole()) {
            return -1;
        }
        int[][] next = new int[3][9];
        int inZones = 0;
        for (int g = 0; g < 3; g++) {
            Grid grid = moves(g);
            for (int j = 0; j < 9; j++) {
                next[g][j] = (int) grid.column(j);
            }
            next[g][8] += people(g, 9);
            inZones += Arrays.stream(next[g]).sum() - next[g][8];
        }
        act();
        w.counts = next;
        w.layers[0] = w.layers[1].clone();
        return inZones;
    }

    int fit(int group) {
        if (!canFit(group)) {
            return -1;
        }
        boolean[] there = new boolean[4];
        for (int c = 0; c < cells(); c++) {
            if (sign(0, c) != '.') {
                there[sign(2, c) - '0'] = true;
            }
        }
        int[] was = w.weights[group].clone();
        int[] best = null;
        long[] bestMisfit = null;
        for (int n = 0; n < 10000; n++) {
            int[] row = {n / 1000, n / 100 % 10, n / 10 % 10, n % 10};
            boolean right = true;
            for (int land = 0; land < 4; land++) {
                right &= there[land] || row[land] == was[land];
            }
            if (!right) {
                continue;
            }
            long[] misfit = misfitOf(group, row);
            if (misfit != null
                    && (best == null || misfit[0] * bestMisfit[1] < bestMisfit[0] * misfit[1])) {
                best = row;
                bestMisfit = misfit;
            }
        }
        int others = 0;
        for (int land = 0; land < 4; land++) {
            others += best[land] == was[land] ? 0 : 1;
        }
        if (others == 0) {
            return -2;
        }
        act();
        w.weights[group] = best;
        return others;
    }

    // ---- the map

    private boolean whole() {
        return w.layers[0] != null && w.layers[1] != null && w.layers[2] != null;
    }

    private int columns() {
        return w.layers[0][0].length();
    }

    private int cells() {
        return w.layers[0] == null ? 0 : w.layers[0].length * columns();
    }

    private char sign(int layer, int c) {
        return w.layers[layer][c / columns()].charAt(c % columns());
    }

    /** The zone of a cell in OLD or NEW, 8 for a point. */
    private int zone(int layer, int c) {
        return sign(layer, c) == '.' ? 8 : sign(layer, c) - 'a';
    }

    private int weightAt(int group, int c) {
        return w.weights[group][sign(2, c) - '0'];
    }

    private int size(int layer, int zone) {
        int n = 0;
        for (int c = 0; w.layers[layer] != null && c < cells(); c++) {
            n += zone(layer, c) == zone ? 1 : 0;
        }
        return n;
    }

    int cell(int layer, int row, int column) {
        if (layer < 0 || layer > 2 || w.layers[layer] == null || row < 0 || row >= w.layers[layer].length
                || column < 0 || column >= columns()) {
            return -1;
        }
        return w.layers[layer][row].charAt(column);
    }

    int piece(int k, int what) {
        if (!whole() || what < 0 || what > 3) {
            return -1;
        }
        List<int[]> pieces = new ArrayList<>();
        for (int o = 0; o < 8; o++) {
            for (int z = 0; z < 9; z++) {
                for (int l = 0; l < 4; l++) {
                    int n = 0;
                    for (int c = 0; c < cells(); c++) {
                        n += zone(0, c) == o && zone(1, c) == z && sign(2, c) == '0' + l ? 1 : 0;
                    }
                    if (n > 0) {
                        pieces.add(new int[] {o, z, l, n});
                    }
                }
            }
        }
        if (k == -1) {
            return pieces.size();
        }
        return k < 0 || k >= pieces.size() ? -1 : pieces.get(k)[what];
    }

    int apart(int what) {
        if (what < 0 || what > 3 || w.layers[0] == null || w.layers[1] == null) {
            return -1;
        }
        int n = 0;
        if (what == 0) {
            for (int c = 0; c < cells(); c++) {
                n += sign(0, c) == sign(1, c) ? 0 : 1;
            }
            return n;
        }
        for (int o = 0; o < 8; o++) {
            boolean equal = false;
            int met = 0;
            boolean out = false;
            for (int z = 0; z < 9; z++) {
                boolean meets = false;
                boolean same = size(0, o) > 0;
                for (int c = 0; c < cells(); c++) {
                    meets |= zone(0, c) == o && zone(1, c) == z;
                    same &= (zone(0, c) == o) == (zone(1, c) == z);
                }
                equal |= same && z < 8;
                met += meets ? 1 : 0;
                out |= meets && z == 8;
            }
            n += what == 1 && equal || what == 2 && met > 1 || what == 3 && out ? 1 : 0;
        }
        return n;
    }

    int count(int what) {
        switch (what) {
            case 0:
                return cells();
            case 1:
                return w.layers[0] == null ? 0 : w.layers[0].length;
            case 2:
            case 3:
            case 4:
                return w.layers[what - 2] == null ? 0
                        : (int) String.join("", w.layers[what - 2]).chars().filter(c -> c != '.').distinct().count();
            case 5:
                return w.rounding;
            case 6:
                return w.unknown;
            case 7:
                return (w.layers[0] == null ? 0 : 1) + (w.layers[1] == null ? 0 : 2) + (w.layers[2] == null ? 0 : 4);
            case 8:
                return past.size();
            case 9:
                return tape.length();
            case 10:
            case 11:
                int sum = 0;
                for (int g = 0; g < 3 && whole(); g++) {
                    sum += what == 10 ? moved(g, -1, -1) : people(g, 9);
                }
                return sum;
            default:
                return -1;
        }
    }

    int weight(int group, int land) {
        return group < 0 || group > 2 || land < 0 || land > 3 ? -1 : w.weights[group][land];
    }

    int districtOf(int zone) {
        return zone < 0 || zone > 7 ? -1 : w.districts[zone];
    }

    // ---- people and their shares

    /** By REMAINDERS: as many people by the parts, which are together above 0. */
    private static long[] remainders(long people, long[] parts) {
        long all = Arrays.stream(parts).sum();
        long[] given = new long[parts.length];
        long left = people;
        for (int j = 0; j < parts.length; j++) {
            given[j] = people * parts[j] / all;
            left -= given[j];
        }
        boolean[] had = new boolean[parts.length];
        for (; left > 0; left--) {
            int best = -1;
            for (int j = 0; j < parts.length; j++) {
                if (!had[j] && (best < 0 || people * parts[j] % all > people * parts[best] % all)) {
                    best = j;
                }
            }
            had[best] = true;
            given[best]++;
        }
        return given;
    }

    private long[] lives(int group) {
        long[] lives = new long[9];
        long[] sizes = new long[8];
        lives[8] = w.counts[group][8];
        for (int z = 0; z < 8; z++) {
            sizes[z] = size(0, z);
            lives[sizes[z] > 0 ? z : 8] += w.counts[group][z];
        }
        if (w.unknown == 1 && Arrays.stream(sizes).sum() > 0) {
            long[] known = Arrays.copyOf(lives, 8);
            long[] shared = remainders(lives[8], Arrays.stream(known).sum() > 0 ? known : sizes);
            for (int z = 0; z < 8; z++) {
                lives[z] += shared[z];
            }
            lives[8] = 0;
        }
        return lives;
    }

    int people(int group, int what) {
        if (group < 0 || group > 2 || what < 0 || what > 10) {
            return -1;
        }
        int told = Arrays.stream(w.counts[group]).sum();
        if (what < 8) {
            return (int) lives(group)[what];
        }
        if (what == 8) {
            int unknown = w.counts[group][8];
            for (int z = 0; z < 8; z++) {
                unknown += size(0, z) == 0 ? w.counts[group][z] : 0;
            }
            return unknown;
        }
        return what == 9 ? (int) lives(group)[8] : told;
    }

    private Grid grid(long[] people, long[][] byWeights, long[][] byCells) {
        Grid g = new Grid();
        int rows = people.length;
        g.n = new long[rows][];
        g.d = new long[rows];
        g.given = new long[rows][];
        for (int i = 0; i < rows; i++) {
            long[] parts = Arrays.stream(byWeights[i]).sum() > 0 ? byWeights[i] : byCells[i];
            g.d[i] = Arrays.stream(parts).sum();
            g.n[i] = new long[parts.length];
            g.given[i] = new long[parts.length];
            if (g.d[i] == 0) {
                g.d[i] = 1;
                continue;
            }
            for (int j = 0; j < parts.length; j++) {
                g.n[i][j] = people[i] * parts[j];
            }
            g.given[i] = remainders(people[i], parts);
        }
        if (w.rounding == 1) {
            balance(g, people);
        }
        return g;
    }

    private static void balance(Grid g, long[] people) {
        int rows = g.d.length;
        int columns = g.n[0].length;
        long[] low = new long[columns];
        long[] high = new long[columns];
        for (int j = 0; j < columns; j++) {
            BigInteger[] sum = columnSum(g, j);
            BigInteger[] parts = sum[0].divideAndRemainder(sum[1]);
            low[j] = parts[0].longValueExact();
            high[j] = low[j] + parts[1].signum();
        }
        for (int i = 0; i < rows; i++) {
            for (int j = 0; j < columns; j++) {
                g.given[i][j] = g.n[i][j] / g.d[i];
            }
        }
        if (!search(g, people, low, high, 0, 0)) {
            throw new IllegalStateException("there is no balanced table");
        }
    }

    /** Tries one more, then none, for the entry (i, j) and all behind it. */
    private static boolean search(Grid g, long[] people, long[] low, long[] high, int i, int j) {
        int columns = low.length;
        if (i == people.length) {
            return true;
        }
        if (j == columns) {
            return Arrays.stream(g.given[i]).sum() == people[i]
                    && columnsCanCome(g, low, high, i + 1) && search(g, people, low, high, i + 1, 0);
        }
        long missing = people[i] - Arrays.stream(g.given[i]).sum();
        if (g.n[i][j] % g.d[i] != 0 && missing > 0) {
            g.given[i][j]++;
            if (search(g, people, low, high, i, j + 1)) {
                return true;
            }
            g.given[i][j]--;
        }
        return search(g, people, low, high, i, j + 1);
    }

    private static boolean columnsCanCome(Grid g, long[] low, long[] high, int firstFree) {
        for (int j = 0; j < low.length; j++) {
            long least = 0;
            long most = 0;
            for (int i = 0; i < g.d.length; i++) {
                least += g.given[i][j];
                most += g.given[i][j] + (i >= firstFree && g.n[i][j] % g.d[i] != 0 ? 1 : 0);
            }
            if (least > high[j] || most < low[j]) {
                return false;
            }
        }
        return true;
    }

    private static BigInteger[] columnSum(Grid g, int j) {
        BigInteger n = BigInteger.ZERO;
        BigInteger d = BigInteger.ONE;
        for (int i = 0; i < g.d.length; i++) {
            BigInteger dn = BigInteger.valueOf(g.d[i]);
            n = n.multiply(dn).add(BigInteger.valueOf(g.n[i][j]).multiply(d));
            d = d.multiply(dn);
        }
        BigInteger by = n.gcd(d);
        return new BigInteger[] {n.divide(by), d.divide(by)};
    }

    private Grid moves(int group) {
        long[][] byWeights = new long[8][9];
        long[][] byCells = new long[8][9];
        for (int c = 0; c < cells(); c++) {
            if (zone(0, c) < 8) {
                byWeights[zone(0, c)][zone(1, c)] += weightAt(group, c);
                byCells[zone(0, c)][zone(1, c)]++;
            }
        }
        return grid(Arrays.copyOf(lives(group), 8), byWeights, byCells);
    }

    private Grid coarseGrid(int group) {
        long[][] byWeights = new long[8][5];
        long[][] byCells = new long[8][5];
        for (int c = 0; c < cells(); c++) {
            if (zone(0, c) < 8) {
                int j = zone(1, c) == 8 ? 4 : w.districts[zone(1, c)];
                byWeights[zone(0, c)][j] += weightAt(group, c);
                byCells[zone(0, c)][j]++;
            }
        }
        return grid(Arrays.copyOf(lives(group), 8), byWeights, byCells);
    }

    private boolean isTarget(int group, int zone, int most) {
        return group >= 0 && group <= 2 && zone >= 0 && zone <= most && whole();
    }

    int share(int group, int old, int zone, int what) {
        if (!isTarget(group, zone, 8) || old < 0 || old > 7 || what < 0 || what > 1 || size(0, old) == 0) {
            return -1;
        }
        long there = 0;
        long all = 0;
        long cellsThere = 0;
        for (int c = 0; c < cells(); c++) {
            if (zone(0, c) == old) {
                all += weightAt(group, c);
                there += zone(1, c) == zone ? weightAt(group, c) : 0;
                cellsThere += zone(1, c) == zone ? 1 : 0;
            }
        }
        return (int) (all > 0 ? lowest(there, all)[what] : lowest(cellsThere, size(0, old))[what]);
    }

    private static long[] lowest(long n, long d) {
        long by = BigInteger.valueOf(n).gcd(BigInteger.valueOf(d)).longValue();
        return new long[] {n / by, d / by};
    }

    int moved(int group, int old, int zone) {
        if (group < 0 || group > 2 || old < -1 || old > 7 || zone < -1 || zone > 8 || !whole()) {
            return -1;
        }
        Grid g = moves(group);
        long sum = 0;
        for (int i = 0; i < 8; i++) {
            for (int j = 0; j < 9; j++) {
                sum += (old == -1 || old == i) && (zone == -1 || zone == j) ? g.given[i][j] : 0;
            }
        }
        return (int) sum;
    }

    long exact(int group, int zone, int what) {
        if (!isTarget(group, zone, 8) || what < 0 || what > 2) {
            return -1;
        }
        BigInteger[] sum = columnSum(moves(group), zone);
        BigInteger[] parts = sum[0].divideAndRemainder(sum[1]);
        return what == 0 ? parts[0].longValueExact() : what == 1 ? parts[1].longValueExact() : sum[1].longValueExact();
    }

    int coarse(int group, int district, int what) {
        if (!isTarget(group, district, 3) || what < 0 || what > 1) {
            return -1;
        }
        if (what == 1) {
            return (int) coarseGrid(group).column(district);
        }
        int sum = 0;
        for (int z = 0; z < 8; z++) {
            sum += w.districts[z] == district ? moved(group, -1, z) : 0;
        }
        return sum;
    }

    private boolean canFit(int group) {
        if (group < 0 || group > 2 || !whole()) {
            return false;
        }
        int people = 0;
        for (int z = 0; z < 8; z++) {
            people += size(0, z) > 0 ? w.counts[group][z] : 0;
        }
        return people > 0;
    }

    /** A MISFIT by S; null if S is 0. */
    private long[] misfitOf(int group, int[] row) {
        long[] s = new long[8];
        long[] c = new long[8];
        for (int k = 0; k < cells(); k++) {
            if (zone(0, k) < 8) {
                s[zone(0, k)] += row[sign(2, k) - '0'];
                c[zone(0, k)] = w.counts[group][zone(0, k)];
            }
        }
        long sAll = Arrays.stream(s).sum();
        long cAll = Arrays.stream(c).sum();
        long sum = 0;
        for (int z = 0; z < 8; z++) {
            sum += Math.abs(c[z] * sAll - cAll * s[z]);
        }
        return sAll == 0 ? null : new long[] {sum, sAll};
    }

    long misfit(int group, int what) {
        if (!canFit(group) || what < 0 || what > 1) {
            return -1;
        }
        long[] misfit = misfitOf(group, w.weights[group]);
        return misfit == null ? -1 : lowest(misfit[0], misfit[1])[what];
    }

    int byWay(int group, int zone) {
        if (!isTarget(group, zone, 7)) {
            return -1;
        }
        Grid first = coarseGrid(group);
        long[] people = new long[4];
        long[][] byWeights = new long[4][8];
        long[][] byCells = new long[4][8];
        for (int d = 0; d < 4; d++) {
            people[d] = first.column(d);
        }
        for (int c = 0; c < cells(); c++) {
            if (zone(1, c) < 8) {
                byWeights[w.districts[zone(1, c)]][zone(1, c)] += weightAt(group, c);
                byCells[w.districts[zone(1, c)]][zone(1, c)]++;
            }
        }
        return (int) grid(people, byWeights, byCells).column(zone);
    }

    int returned(int group, int zone) {
        if (!isTarget(group, zone, 8)) {
            return -1;
        }
        Grid first = moves(group);
        long[] people = new long[8];
        long[][] byWeights = new long[8][9];
        long[][] byCells = new long[8][9];
        for (int z = 0; z < 8; z++) {
            people[z] = first.column(z);
        }
        for (int c = 0; c < cells(); c++) {
            if (zone(1, c) < 8) {
                byWeights[zone(1, c)][zone(0, c)] += weightAt(group, c);
                byCells[zone(1, c)][zone(0, c)]++;
            }
        }
        return (int) grid(people, byWeights, byCells).column(zone);
    }

    int astray(int group) {
        if (!isTarget(group, 0, 8)) {
            return -1;
        }
        int sum = 0;
        for (int z = 0; z < 8; z++) {
            sum += Math.abs(people(group, z) - returned(group, z));
        }
        return sum;
    }

    private long[] falls(int group, int c) {
        int old = zone(0, c);
        if (old == 8) {
            return new long[] {0, 1};
        }
        long all = 0;
        for (int k = 0; k < cells(); k++) {
            all += zone(0, k) == old ? weightAt(group, k) : 0;
        }
        long people = lives(group)[old];
        return all > 0 ? lowest(people * weightAt(group, c), all) : lowest(people, size(0, old));
    }

    long surface(int group, int row, int column, int what) {
        if (!isTarget(group, 0, 8) || cell(0, row, column) == -1 || what < 0 || what > 1) {
            return -1;
        }
        return falls(group, row * columns() + column)[what];
    }

    int densest(int group, int k) {
        if (!isTarget(group, 0, 8) || k < 0 || k >= cells()) {
            return -1;
        }
        List<long[]> all = new ArrayList<>();
        for (int c = 0; c < cells(); c++) {
            long[] falls = falls(group, c);
            all.add(new long[] {falls[0], falls[1], c});
        }
        all.sort((a, b) -> Long.compare(b[0] * a[1], a[0] * b[1]));
        int c = (int) all.get(k)[2];
        return 12 * (c / columns()) + c % columns();
    }

    long dense(int group, int zone, int what) {
        if (!isTarget(group, zone, 7) || what < 0 || what > 3 || size(1, zone) == 0) {
            return Long.MIN_VALUE;
        }
        double x = (double) moved(group, -1, zone) / size(1, zone);
        switch (what) {
            case 0:
                return Double.doubleToLongBits(x);
            case 1:
                return Float.floatToIntBits((float) x);
            case 2:
                return Double.doubleToLongBits(x % 1);
            default:
                return (long) Math.floor(x / 0.5);
        }
    }

    long off(int group) {
        if (!isTarget(group, 0, 8)) {
            return Long.MIN_VALUE;
        }
        Grid g = moves(group);
        double sum = 0;
        for (int i = 0; i < 8; i++) {
            for (int j = 0; j < 9; j++) {
                sum += (double) Math.abs(g.given[i][j] * g.d[i] - g.n[i][j]) / g.d[i];
            }
        }
        return Double.doubleToLongBits(sum);
    }
}
