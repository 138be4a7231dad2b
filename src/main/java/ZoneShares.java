import java.util.Arrays;

/**
 * People counted by old zones, moved to new ones over one map of three layers.
 * The project's document says what each call answers; its Terms tell the words used here.
 */
public final class ZoneShares {
    public static final int NONE = -1;

    /** What an act answers if all is so already; a FAULT is counted down from here, too. */
    private static final int NOTHING = -2;
    /** The least long: what a call that answers bits answers without these. */
    private static final long NO_BITS = 1L << 63;
    private static final int GROUPS = 3;
    private static final int ZONES = 8;
    private static final int OUT = 8;
    private static final int LANDS = 4;
    private static final int DISTRICTS = 4;
    private static final int OLD = 0;
    private static final int NEW = 1;
    private static final int LAND = 2;
    private static final int LAYERS = 3;
    private static final int MOST_ROWS = 8;
    private static final int MOST_COLUMNS = 12;
    private static final int MOST_CELLS = 96;
    private static final int MOST_WEIGHT = 9;
    private static final int MOST_PEOPLE = 9999;
    private static final int TAPE_BYTES = 200;
    private static final int FEED_BYTES = 20;
    private static final int UNDOABLE = 8;
    /** The place of ? behind those of the ZONES. */
    private static final int UNNAMED = 8;
    private static final int SLOTS = 9;
    /** A table's columns: the ZONES, and OUT (or . of OLD). */
    private static final int WIDE = 9;
    private static final int ENTRIES = 72;
    private static final int PIECES = 288;

    private final Tape tape;
    private final State now;
    private final History history;
    private final LayerText layerText;
    private final CountsText countsText;
    private final Fitter fitter;
    private final Group[] groups;
    private final int[] pieceCells;

    public ZoneShares() {
        State state = new State();
        Rounder rounder = new Rounder();
        now = state;
        tape = new Tape();
        history = new History();
        layerText = new LayerText();
        countsText = new CountsText();
        fitter = new Fitter();
        pieceCells = new int[PIECES];
        groups = new Group[GROUPS];
        for (int group = 0; group < GROUPS; group++) {
            groups[group] = new Group(group, state, rounder);
        }
    }

    public int feed(int a, int b, int c, int d, int e) {
        if (tape.length + FEED_BYTES > TAPE_BYTES) {
            return NONE;
        }
        tape.put(a);
        tape.put(b);
        tape.put(c);
        tape.put(d);
        tape.put(e);
        return tape.length;
    }

    public int end(int n) {
        if (n < 0 || n > tape.length) {
            return NONE;
        }
        tape.length = n;
        return n;
    }

    public int layer(int what) {
        if (what < OLD || what > LAND || what != OLD && !now.has(OLD)) {
            return NONE;
        }
        int fault = layerText.read(tape, what, now);
        tape.length = 0;
        if (fault != NONE) {
            return NOTHING - fault;
        }
        startAct();
        now.putLayer(what, layerText);
        return now.cells();
    }

    public int counts(int group) {
        if (!isGroup(group)) {
            return NONE;
        }
        int fault = countsText.read(tape);
        tape.length = 0;
        if (fault != NONE) {
            return NOTHING - fault;
        }
        startAct();
        System.arraycopy(countsText.people, 0, now.counted, group * SLOTS, SLOTS);
        return now.toldOf(group);
    }

    public int weigh(int group, int land, int weight) {
        if (group != NONE && !isGroup(group) || !isLand(land)
                || weight < 0 || weight > MOST_WEIGHT) {
            return NONE;
        }
        int first = group == NONE ? 0 : group;
        int last = group == NONE ? GROUPS - 1 : group;
        boolean same = true;
        for (int each = first; each <= last; each++) {
            same = same && now.weights[each * LANDS + land] == weight;
        }
        if (same) {
            return NOTHING;
        }
        int was = now.weights[first * LANDS + land];
        startAct();
        for (int each = first; each <= last; each++) {
            now.weights[each * LANDS + land] = weight;
        }
        return was;
    }

    public int settle(int what, int value) {
        if (what < 0 || what > 1 || value < 0 || value > 1) {
            return NONE;
        }
        int was = what == 0 ? now.rounding : now.sharing;
        if (was == value) {
            return NOTHING;
        }
        startAct();
        if (what == 0) {
            now.rounding = value;
        } else {
            now.sharing = value;
        }
        return was;
    }

    public int district(int zone, int district) {
        if (!isZone(zone) || !isDistrict(district)) {
            return NONE;
        }
        int was = now.districts[zone];
        if (was == district) {
            return NOTHING;
        }
        startAct();
        now.districts[zone] = district;
        return was;
    }

    public int fit(int group) {
        if (!fits(group)) {
            return NONE;
        }
        fitter.findBest();
        int others = 0;
        for (int land = 0; land < LANDS; land++) {
            if (fitter.best[land] != now.weights[group * LANDS + land]) {
                others++;
            }
        }
        if (others == 0) {
            return NOTHING;
        }
        startAct();
        System.arraycopy(fitter.best, 0, now.weights, group * LANDS, LANDS);
        return others;
    }

    public int adopt() {
        if (!now.whole()) {
            return NONE;
        }
        for (int group = 0; group < GROUPS; group++) {
            groups[group].ready(Group.MOVES);
        }
        startAct();
        int inZones = 0;
        for (int group = 0; group < GROUPS; group++) {
            inZones += adoptCounts(group);
        }
        System.arraycopy(now.signs, NEW * MOST_CELLS, now.signs, OLD * MOST_CELLS, MOST_CELLS);
        return inZones;
    }

    public int undo() {
        if (history.acts == 0) {
            return NONE;
        }
        forgetTables();
        history.bringBack(now);
        return history.acts;
    }

    public int cell(int layer, int row, int column) {
        if (layer < OLD || layer > LAND || !now.has(layer) || !now.hasCell(row, column)) {
            return NONE;
        }
        int value = now.at(layer, row * now.columns + column);
        if (layer == LAND) {
            return '0' + value;
        }
        return value == OUT ? '.' : 'a' + value;
    }

    public int piece(int k, int what) {
        if (!now.whole() || k < NONE || what < 0 || what > 3) {
            return NONE;
        }
        int pieces = countPieces();
        if (k == NONE) {
            return pieces;
        }
        if (k >= pieces) {
            return NONE;
        }
        int place = placeOfPiece(k);
        switch (what) {
            case 0:
                return place / (WIDE * LANDS);
            case 1:
                return place / LANDS % WIDE;
            case 2:
                return place % LANDS;
            default:
                return pieceCells[place];
        }
    }

    public int people(int group, int what) {
        if (!isGroup(group) || what < 0 || what > 10) {
            return NONE;
        }
        Group view = groups[group];
        view.makeLives();
        if (what < ZONES) {
            return view.lives[what];
        }
        if (what == 8) {
            return view.unknown;
        }
        return what == 9 ? view.aside : now.toldOf(group);
    }

    public int share(int group, int old, int zone, int what) {
        if (!isTarget(group, zone) || !isZone(old) || what < 0 || what > 1) {
            return NONE;
        }
        Group view = groups[group];
        view.ready(Group.MOVES);
        int all = view.moves.totals[old];
        if (all == 0) {
            return NONE;
        }
        int part = view.moves.parts[old * WIDE + zone];
        return (int) lowest(part, all, what);
    }

    public int moved(int group, int old, int zone) {
        if (!isGroup(group) || !now.whole() || old < NONE || old >= ZONES
                || zone < NONE || zone > OUT) {
            return NONE;
        }
        Group view = groups[group];
        view.ready(Group.MOVES);
        int firstRow = old == NONE ? 0 : old;
        int lastRow = old == NONE ? ZONES - 1 : old;
        int firstColumn = zone == NONE ? 0 : zone;
        int lastColumn = zone == NONE ? OUT : zone;
        int sum = 0;
        for (int row = firstRow; row <= lastRow; row++) {
            for (int column = firstColumn; column <= lastColumn; column++) {
                sum += view.moves.given[row * WIDE + column];
            }
        }
        return sum;
    }

    public long exact(int group, int zone, int what) {
        if (!isTarget(group, zone) || what < 0 || what > 2) {
            return NONE;
        }
        Table moves = groups[group].ready(Group.MOVES).moves;
        long common = moves.common();
        if (common <= 0) {
            return NONE;
        }
        long rests = moves.restsOf(zone, common);
        if (what == 0) {
            return moves.floorsOf(zone) + rests / common;
        }
        return lowest(rests % common, common, what - 1);
    }

    public int coarse(int group, int district, int what) {
        if (!isGroup(group) || !now.whole() || !isDistrict(district) || what < 0 || what > 1) {
            return NONE;
        }
        Group view = groups[group];
        if (what == 1) {
            view.ready(Group.COARSE);
            return view.coarse.column(district);
        }
        view.ready(Group.MOVES);
        int sum = 0;
        for (int zone = 0; zone < ZONES; zone++) {
            if (now.districts[zone] == district) {
                sum += view.moves.column(zone);
            }
        }
        return sum;
    }

    public long misfit(int group, int what) {
        if (what < 0 || what > 1 || !fits(group)) {
            return NONE;
        }
        long all = fitter.load(now.weights, group * LANDS);
        if (all == 0) {
            return NONE;
        }
        return lowest(fitter.missed(), all, what);
    }

    public int byWay(int group, int zone) {
        if (!isGroup(group) || !isZone(zone) || !now.whole()) {
            return NONE;
        }
        return groups[group].ready(Group.WAY).way.column(zone);
    }

    public int returned(int group, int zone) {
        if (!isTarget(group, zone)) {
            return NONE;
        }
        return groups[group].ready(Group.BACK).back.column(zone);
    }

    public int astray(int group) {
        if (!isGroup(group) || !now.whole()) {
            return NONE;
        }
        Group view = groups[group];
        view.ready(Group.BACK);
        int sum = 0;
        for (int zone = 0; zone < ZONES; zone++) {
            sum += Math.abs(view.lives[zone] - view.back.column(zone));
        }
        return sum;
    }

    public long surface(int group, int row, int column, int what) {
        if (!isGroup(group) || !now.whole() || !now.hasCell(row, column)
                || what < 0 || what > 1) {
            return NONE;
        }
        Group view = groups[group];
        view.ready(Group.MOVES);
        int cell = row * now.columns + column;
        return lowest(view.topOf(cell), view.underOf(cell), what);
    }

    public int densest(int group, int k) {
        if (!isGroup(group) || !now.whole() || k < 0 || k >= now.cells()) {
            return NONE;
        }
        Group view = groups[group];
        view.ready(Group.ORDER);
        int cell = view.order[k];
        int columns = Math.max(1, now.columns);
        return MOST_COLUMNS * (cell / columns) + cell % columns;
    }

    public long dense(int group, int zone, int what) {
        if (!isGroup(group) || !isZone(zone) || !now.whole() || what < 0 || what > 3) {
            return NO_BITS;
        }
        int cells = now.cellsOf(NEW, zone);
        if (cells == 0) {
            return NO_BITS;
        }
        Group view = groups[group];
        view.ready(Group.MOVES);
        double density = (double) view.moves.column(zone) / (double) cells;
        switch (what) {
            case 0:
                return Bits.ofDouble(density);
            case 1:
                return Bits.ofFloat((float) density);
            case 2:
                return Bits.ofDouble(density - (double) (long) density);
            default:
                return (long) (density / 0.5);
        }
    }

    public long off(int group) {
        if (!isGroup(group) || !now.whole()) {
            return NO_BITS;
        }
        Group view = groups[group];
        view.ready(Group.MOVES);
        double sum = 0.0;
        for (int entry = 0; entry < ENTRIES; entry++) {
            int all = view.moves.totals[entry / WIDE];
            if (all > 0) {
                sum = sum + (double) view.moves.offBy(entry) / (double) all;
            }
        }
        return Bits.ofDouble(sum);
    }

    public int apart(int what) {
        if (what < 0 || what > 3 || !now.has(OLD) || !now.has(NEW)) {
            return NONE;
        }
        if (what == 0) {
            return now.unlikeCells();
        }
        int found = 0;
        for (int zone = 0; zone < ZONES; zone++) {
            if (liesApart(zone, what)) {
                found++;
            }
        }
        return found;
    }

    public int count(int what) {
        switch (what) {
            case 0:
                return now.cells();
            case 1:
                return now.rows;
            case 2:
                return now.kinds(OLD, ZONES);
            case 3:
                return now.kinds(NEW, ZONES);
            case 4:
                return now.kinds(LAND, LANDS);
            case 5:
                return now.rounding;
            case 6:
                return now.sharing;
            case 7:
                return now.told;
            case 8:
                return history.acts;
            case 9:
                return tape.length;
            case 10:
                return peopleInAll(true);
            case 11:
                return peopleInAll(false);
            default:
                return NONE;
        }
    }

    public int weight(int group, int land) {
        return isGroup(group) && isLand(land) ? now.weights[group * LANDS + land] : NONE;
    }

    public int districtOf(int zone) {
        return isZone(zone) ? now.districts[zone] : NONE;
    }

    private static boolean isGroup(int group) {
        return group >= 0 && group < GROUPS;
    }

    private static boolean isZone(int zone) {
        return zone >= 0 && zone < ZONES;
    }

    private static boolean isLand(int land) {
        return land >= 0 && land < LANDS;
    }

    private static boolean isDistrict(int district) {
        return district >= 0 && district < DISTRICTS;
    }

    /** Whether there are that GROUP, that ZONE or the one behind the last, and a whole MAP. */
    private boolean isTarget(int group, int zone) {
        return isGroup(group) && zone >= 0 && zone <= OUT && now.whole();
    }

    private void startAct() {
        history.keep(now);
        forgetTables();
    }

    private void forgetTables() {
        for (int group = 0; group < GROUPS; group++) {
            groups[group].done = 0;
        }
    }

    /** Whether WEIGHTS of a GROUP can be fitted; if so the fitter knows what they must fit. */
    private boolean fits(int group) {
        if (!isGroup(group) || !now.whole()) {
            return false;
        }
        fitter.look(now, group);
        return fitter.people > 0;
    }

    /** Counts who was moved by the new ZONES: the table must be ready. */
    private int adoptCounts(int group) {
        Group view = groups[group];
        int inZones = 0;
        for (int zone = 0; zone < ZONES; zone++) {
            int come = view.moves.column(zone);
            now.counted[group * SLOTS + zone] = come;
            inZones += come;
        }
        now.counted[group * SLOTS + UNNAMED] = view.moves.column(OUT) + view.aside;
        return inZones;
    }

    private int countPieces() {
        Arrays.fill(pieceCells, 0);
        int pieces = 0;
        int cells = now.cells();
        for (int cell = 0; cell < cells; cell++) {
            int old = now.at(OLD, cell);
            if (old < ZONES) {
                int place = (old * WIDE + now.at(NEW, cell)) * LANDS + now.at(LAND, cell);
                pieces += pieceCells[place] == 0 ? 1 : 0;
                pieceCells[place]++;
            }
        }
        return pieces;
    }

    /** Where the k-th PIECE stands among all that could be; the cells must be counted. */
    private int placeOfPiece(int k) {
        int ahead = k;
        for (int place = 0; place < PIECES; place++) {
            if (pieceCells[place] > 0) {
                if (ahead == 0) {
                    return place;
                }
                ahead--;
            }
        }
        return 0;
    }

    private boolean liesApart(int zone, int what) {
        int met = now.metBy(zone);
        if (what == 3) {
            return (met >> OUT & 1) == 1;
        }
        if (what == 2) {
            return Integer.bitCount(met) > 1;
        }
        for (int other = 0; other < ZONES; other++) {
            if (met == 1 << other) {
                return now.cellsOf(NEW, other) == now.cellsOf(OLD, zone);
            }
        }
        return false;
    }

    /** Of all GROUPS those who are moved, or those who are left aside; 0 without a whole MAP. */
    private int peopleInAll(boolean thoseMoved) {
        int sum = 0;
        for (int group = 0; group < GROUPS && now.whole(); group++) {
            Group view = groups[group];
            view.makeLives();
            sum += thoseMoved ? now.toldOf(group) - view.aside : view.aside;
        }
        return sum;
    }

    /** Of a fraction in lowest terms the numerator (what 0) or the denominator. */
    private static long lowest(long numerator, long denominator, int what) {
        long by = gcd(numerator, denominator);
        if (by == 0) {
            return NONE;
        }
        return (what == 0 ? numerator : denominator) / by;
    }

    private static long gcd(long a, long b) {
        long high = a;
        long low = b;
        // Euclid's steps over longs end ahead of a hundred
        for (int step = 0; step < 100 && low != 0; step++) {
            long rest = high % low;
            high = low;
            low = rest;
        }
        return high;
    }

    /** The bytes that tell a LAYER or COUNTS. */
    private static final class Tape {
        final int[] bytes = new int[TAPE_BYTES];
        int length;

        void put(int number) {
            for (int shift = 24; shift >= 0 && length < TAPE_BYTES; shift -= 8) {
                bytes[length] = number >>> shift & 255;
                length++;
            }
        }

        /** The byte at a place; NONE behind the last one. */
        int at(int place) {
            return place >= 0 && place < length ? bytes[place] : NONE;
        }
    }

    /** All that an act can change. */
    private static final class State {
        /** Of each layer the cells, row by row: a ZONE, OUT for a point, or a LAND. */
        final int[] signs = new int[LAYERS * MOST_CELLS];
        final int[] counted = new int[GROUPS * SLOTS];
        final int[] weights = new int[GROUPS * LANDS];
        final int[] districts = new int[ZONES];
        int rows;
        int columns;
        int told;
        int rounding;
        int sharing;

        State() {
            Arrays.fill(weights, 1);
        }

        void copy(State other) {
            System.arraycopy(other.signs, 0, signs, 0, LAYERS * MOST_CELLS);
            System.arraycopy(other.counted, 0, counted, 0, GROUPS * SLOTS);
            System.arraycopy(other.weights, 0, weights, 0, GROUPS * LANDS);
            System.arraycopy(other.districts, 0, districts, 0, ZONES);
            rows = other.rows;
            columns = other.columns;
            told = other.told;
            rounding = other.rounding;
            sharing = other.sharing;
        }

        void putLayer(int layer, LayerText text) {
            if (text.rows != rows || text.columns != columns) {
                told = 0;
            }
            rows = text.rows;
            columns = text.columns;
            told = told | 1 << layer;
            System.arraycopy(text.signs, 0, signs, layer * MOST_CELLS, MOST_CELLS);
        }

        boolean has(int layer) {
            return (told >> layer & 1) == 1;
        }

        boolean whole() {
            return told == 7;
        }

        int cells() {
            return rows * columns;
        }

        boolean hasCell(int row, int column) {
            return row >= 0 && row < rows && column >= 0 && column < columns;
        }

        int at(int layer, int cell) {
            return signs[layer * MOST_CELLS + cell];
        }

        int weightAt(int group, int cell) {
            return weights[group * LANDS + at(LAND, cell)];
        }

        int cellsOf(int layer, int sign) {
            int cells = has(layer) ? cells() : 0;
            int found = 0;
            for (int cell = 0; cell < cells; cell++) {
                if (at(layer, cell) == sign) {
                    found++;
                }
            }
            return found;
        }

        /** How many of the first signs stand somewhere in a layer. */
        int kinds(int layer, int signsInAll) {
            int found = 0;
            for (int sign = 0; sign < signsInAll; sign++) {
                if (cellsOf(layer, sign) > 0) {
                    found++;
                }
            }
            return found;
        }

        int unlikeCells() {
            int cells = cells();
            int found = 0;
            for (int cell = 0; cell < cells; cell++) {
                if (at(OLD, cell) != at(NEW, cell)) {
                    found++;
                }
            }
            return found;
        }

        /** As bits: the new ZONES, OUT too, in which cells of an old one lie. */
        int metBy(int zone) {
            int cells = cells();
            int met = 0;
            for (int cell = 0; cell < cells; cell++) {
                if (at(OLD, cell) == zone) {
                    met = met | 1 << at(NEW, cell);
                }
            }
            return met;
        }

        int toldOf(int group) {
            int sum = 0;
            for (int slot = 0; slot < SLOTS; slot++) {
                sum += counted[group * SLOTS + slot];
            }
            return sum;
        }
    }

    /** The last states that an act left behind, in a ring. */
    private static final class History {
        final State[] past = new State[UNDOABLE];
        int next;
        int acts;

        History() {
            for (int k = 0; k < UNDOABLE; k++) {
                past[k] = new State();
            }
        }

        void keep(State state) {
            past[next].copy(state);
            next = (next + 1) % UNDOABLE;
            acts = Math.min(UNDOABLE, acts + 1);
        }

        void bringBack(State state) {
            next = (next + UNDOABLE - 1) % UNDOABLE;
            state.copy(past[next]);
            acts--;
        }
    }

    /** Reads a LAYER from the tape. */
    private static final class LayerText {
        final int[] signs = new int[MOST_CELLS];
        int rows;
        int columns;
        private int filled;
        private int mostRows;
        private boolean widthKnown;
        private boolean asLargeAsOld;

        /** The FAULT of the text; NONE if it has none: then the signs are as it tells. */
        int read(Tape tape, int layer, State map) {
            asLargeAsOld = layer != OLD;
            widthKnown = asLargeAsOld;
            columns = asLargeAsOld ? map.columns : MOST_COLUMNS;
            mostRows = asLargeAsOld ? map.rows : MOST_ROWS;
            rows = 0;
            filled = 0;
            for (int place = 0; place <= tape.length; place++) {
                int sign = tape.at(place);
                int value = valueOf(sign, layer);
                int wrong = value == NONE ? wrongBreak(sign) : wrongSign();
                if (wrong != 0) {
                    return 8 * place + wrong;
                }
                if (value == NONE) {
                    endRow();
                } else {
                    put(value);
                }
            }
            return NONE;
        }

        private static int valueOf(int sign, int layer) {
            if (layer == LAND) {
                return sign >= '0' && sign <= '3' ? sign - '0' : NONE;
            }
            if (sign == '.') {
                return OUT;
            }
            return sign >= 'a' && sign <= 'h' ? sign - 'a' : NONE;
        }

        private int wrongSign() {
            return filled >= columns ? 3 : 0;
        }

        /** What is wrong with a byte that is no sign, or with the text's end. */
        private int wrongBreak(int sign) {
            if (filled == 0 || sign != '/' && sign != NONE) {
                return 1;
            }
            if (widthKnown && filled < columns) {
                return 2;
            }
            if (sign == '/') {
                return rows + 1 >= mostRows ? 3 : 0;
            }
            return asLargeAsOld && rows + 1 < mostRows ? 4 : 0;
        }

        private void endRow() {
            // the first row tells how wide OLD is
            columns = filled;
            widthKnown = true;
            rows++;
            filled = 0;
        }

        private void put(int value) {
            int cell = rows * columns + filled;
            if (cell < MOST_CELLS) {
                signs[cell] = value;
            }
            filled++;
        }
    }

    /** Reads COUNTS from the tape. */
    private static final class CountsText {
        final int[] people = new int[SLOTS];
        private int toldSlots;
        private int place;

        /** The FAULT of the text; NONE if it has none: then the people are as it tells. */
        int read(Tape tape) {
            Arrays.fill(people, 0);
            toldSlots = 0;
            place = 0;
            boolean more = tape.length > 0;
            for (int part = 0; part < TAPE_BYTES && more; part++) {
                int wrong = wrongPart(tape);
                if (wrong != 0) {
                    return 8 * place + wrong;
                }
                int sign = tape.at(place);
                if (sign != ',' && sign != NONE) {
                    return 8 * place + 1;
                }
                more = sign == ',';
                place++;
            }
            return NONE;
        }

        /** Reads a PART: 0, or what is wrong at the place where it stops. */
        private int wrongPart(Tape tape) {
            int slot = slotOf(tape.at(place));
            if (slot == NONE) {
                return 1;
            }
            if ((toldSlots >> slot & 1) == 1) {
                return 3;
            }
            toldSlots = toldSlots | 1 << slot;
            place++;
            if (tape.at(place) != '=') {
                return 1;
            }
            place++;
            if (!isDigit(tape.at(place))) {
                return 1;
            }
            int begin = place;
            people[slot] = number(tape);
            if (people[slot] > MOST_PEOPLE) {
                place = begin;
                return 2;
            }
            return 0;
        }

        /** The NUMBER of all the digits from here; one too many stands for all too great ones. */
        private int number(Tape tape) {
            int value = 0;
            for (; place < tape.length && isDigit(tape.at(place)); place++) {
                value = Math.min(MOST_PEOPLE + 1, value * 10 + tape.at(place) - '0');
            }
            return value;
        }

        private static int slotOf(int sign) {
            if (sign == '?') {
                return UNNAMED;
            }
            return sign >= 'a' && sign <= 'h' ? sign - 'a' : NONE;
        }

        private static boolean isDigit(int sign) {
            return sign >= '0' && sign <= '9';
        }
    }

    /** People of at most 8 rows, shared among at most 9 columns as whole persons. */
    private static final class Table {
        final int[] people = new int[ZONES];
        final int[] totals = new int[ZONES];
        /** By rows: 1 if no WEIGHT counts there, so that CELLS do. */
        final int[] plain = new int[ZONES];
        final int[] parts = new int[ENTRIES];
        final int[] cells = new int[ENTRIES];
        final int[] floors = new int[ENTRIES];
        final int[] rests = new int[ENTRIES];
        final int[] given = new int[ENTRIES];

        void clear() {
            Arrays.fill(people, 0);
            Arrays.fill(parts, 0);
            Arrays.fill(cells, 0);
        }

        void add(int row, int column, int weight, int cellsMore) {
            int entry = row * WIDE + column;
            parts[entry] += weight;
            cells[entry] += cellsMore;
        }

        /** Gives each entry what falls there, rounded down, and keeps the rest. */
        void cut() {
            for (int row = 0; row < ZONES; row++) {
                int weights = sum(parts, row);
                plain[row] = weights == 0 ? 1 : 0;
                if (weights == 0) {
                    System.arraycopy(cells, row * WIDE, parts, row * WIDE, WIDE);
                }
                totals[row] = sum(parts, row);
                cutRow(row, totals[row]);
            }
        }

        private void cutRow(int row, int total) {
            for (int entry = row * WIDE; entry < row * WIDE + WIDE; entry++) {
                long falls = (long) people[row] * parts[entry];
                floors[entry] = total > 0 ? (int) (falls / total) : 0;
                rests[entry] = total > 0 ? (int) (falls % total) : 0;
                given[entry] = floors[entry];
            }
        }

        private static int sum(int[] numbers, int row) {
            int sum = 0;
            for (int column = 0; column < WIDE; column++) {
                sum += numbers[row * WIDE + column];
            }
            return sum;
        }

        int leftOver(int row) {
            return totals[row] > 0 ? people[row] - sum(floors, row) : 0;
        }

        void giveByRests() {
            for (int row = 0; row < ZONES; row++) {
                int left = leftOver(row);
                for (int each = 0; each < WIDE && each < left; each++) {
                    giveToGreatest(row);
                }
            }
        }

        private void giveToGreatest(int row) {
            int best = NONE;
            int most = 0;
            for (int entry = row * WIDE; entry < row * WIDE + WIDE; entry++) {
                if (rests[entry] > most && given[entry] == floors[entry]) {
                    best = entry;
                    most = rests[entry];
                }
            }
            if (best != NONE) {
                given[best]++;
            }
        }

        int column(int column) {
            int sum = 0;
            for (int row = 0; row < ZONES; row++) {
                sum += given[row * WIDE + column];
            }
            return sum;
        }

        int floorsOf(int column) {
            int sum = 0;
            for (int row = 0; row < ZONES; row++) {
                sum += floors[row * WIDE + column];
            }
            return sum;
        }

        /**
         * A denominator for all rows. The totals of a map are together at most 864,
         * so that this stays below 2 to the 55th.
         */
        long common() {
            long common = 1;
            for (int row = 0; row < ZONES; row++) {
                long by = gcd(common, totals[row]);
                if (totals[row] > 0 && by > 0) {
                    common = common / by * totals[row];
                }
            }
            return common;
        }

        /** The rests of a column together, over the common denominator. */
        long restsOf(int column, long common) {
            long sum = 0;
            for (int row = 0; row < ZONES; row++) {
                if (totals[row] > 0) {
                    sum += rests[row * WIDE + column] * (common / totals[row]);
                }
            }
            return sum;
        }

        /** How much an entry is off what falls there, over its row's total. */
        long offBy(int entry) {
            int row = entry / WIDE;
            return Math.abs((long) given[entry] * totals[row] - (long) people[row] * parts[entry]);
        }
    }

    /**
     * Rounds tables. For a balanced one those who come on top of what is rounded down are
     * a flow from rows to columns to one hub; a way round through what is still free
     * changes it without harm, so that each entry in turn can be tried with one more.
     */
    private static final class Rounder {
        private static final int HUB = ZONES + WIDE;
        private static final int NODES = HUB + 1;

        private final int[] free = new int[ENTRIES];
        private final int[] more = new int[ENTRIES];
        private final int[] least = new int[WIDE];
        private final int[] most = new int[WIDE];
        private final int[] come = new int[WIDE];
        private final int[] from = new int[NODES];
        private final int[] queue = new int[NODES];
        private int queued;

        void round(Table table, boolean balanced) {
            table.cut();
            if (!balanced) {
                table.giveByRests();
                return;
            }
            open(table);
            for (int row = 0; row < ZONES; row++) {
                fillRow(row, table.leftOver(row));
            }
            for (int column = 0; column < WIDE; column++) {
                fillColumn(column);
            }
            for (int entry = 0; entry < ENTRIES; entry++) {
                if (free[entry] == 1) {
                    fix(entry);
                }
                table.given[entry] = table.floors[entry] + more[entry];
            }
        }

        private void open(Table table) {
            long common = table.common();
            for (int entry = 0; entry < ENTRIES; entry++) {
                free[entry] = table.rests[entry] > 0 ? 1 : 0;
                more[entry] = 0;
            }
            for (int column = 0; column < WIDE && common > 0; column++) {
                long rests = table.restsOf(column, common);
                least[column] = (int) (rests / common);
                most[column] = least[column] + (rests % common == 0 ? 0 : 1);
                come[column] = 0;
            }
        }

        private void fillRow(int row, int wanted) {
            for (int each = 0; each < wanted && each < WIDE; each++) {
                if (findWay(row, HUB)) {
                    turnWay(row, HUB);
                }
            }
        }

        private void fillColumn(int column) {
            for (int each = 0; each < ZONES && come[column] < least[column]; each++) {
                if (findWay(HUB, ZONES + column)) {
                    turnWay(HUB, ZONES + column);
                    come[column]++;
                }
            }
        }

        /** Gives an entry one more for good if the others can still come out right. */
        private void fix(int entry) {
            free[entry] = 0;
            int row = entry / WIDE;
            int column = ZONES + entry % WIDE;
            if (more[entry] == 0 && findWay(column, row)) {
                turnWay(column, row);
                more[entry] = 1;
            }
        }

        private boolean findWay(int start, int goal) {
            Arrays.fill(from, NONE);
            queued = 0;
            reach(start, start);
            for (int head = 0; head < queued && from[goal] == NONE; head++) {
                int node = queue[head];
                if (node < ZONES) {
                    spreadRow(node);
                } else if (node < HUB) {
                    spreadColumn(node - ZONES);
                } else {
                    spreadHub();
                }
            }
            return from[goal] != NONE;
        }

        private void reach(int node, int by) {
            if (from[node] == NONE && queued < NODES) {
                from[node] = by;
                queue[queued] = node;
                queued++;
            }
        }

        private void spreadRow(int row) {
            for (int column = 0; column < WIDE; column++) {
                int entry = row * WIDE + column;
                if (free[entry] == 1 && more[entry] == 0) {
                    reach(ZONES + column, row);
                }
            }
        }

        private void spreadColumn(int column) {
            if (come[column] < most[column]) {
                reach(HUB, ZONES + column);
            }
            for (int row = 0; row < ZONES; row++) {
                int entry = row * WIDE + column;
                if (free[entry] == 1 && more[entry] == 1) {
                    reach(row, ZONES + column);
                }
            }
        }

        private void spreadHub() {
            for (int column = 0; column < WIDE; column++) {
                if (come[column] > least[column]) {
                    reach(ZONES + column, HUB);
                }
            }
        }

        private void turnWay(int start, int goal) {
            int node = goal;
            for (int step = 0; step < NODES && node != start; step++) {
                turnStep(from[node], node);
                node = from[node];
            }
        }

        private void turnStep(int here, int there) {
            if (here < ZONES) {
                more[here * WIDE + there - ZONES] = 1;
            } else if (there < ZONES) {
                more[there * WIDE + here - ZONES] = 0;
            } else if (there == HUB) {
                come[here - ZONES]++;
            } else {
                come[there - ZONES]--;
            }
        }
    }

    /** What follows for one GROUP from the state; made when asked for and kept till an act. */
    private static final class Group {
        static final int LIVES = 1;
        static final int MOVES = 2;
        static final int BACK = 4;
        static final int COARSE = 8;
        static final int WAY = 16;
        static final int ORDER = 32;

        final int[] lives = new int[ZONES];
        final int[] order = new int[MOST_CELLS];
        final Table moves = new Table();
        final Table back = new Table();
        final Table coarse = new Table();
        final Table way = new Table();
        int unknown;
        int aside;
        /** As bits: what is made already. */
        int done;
        private final int group;
        private final State map;
        private final Rounder rounder;
        private final Table sharing = new Table();

        Group(int group, State map, Rounder rounder) {
            this.group = group;
            this.map = map;
            this.rounder = rounder;
        }

        /** Makes what is asked for, and what it follows from. */
        Group ready(int what) {
            makeLives();
            if ((what == MOVES || what == BACK || what == ORDER) && lacks(MOVES)) {
                fillMoves();
                rounder.round(moves, map.rounding == 1);
            }
            if (what == BACK && lacks(BACK)) {
                fillBack();
                rounder.round(back, map.rounding == 1);
            }
            if ((what == COARSE || what == WAY) && lacks(COARSE)) {
                fillCoarse();
                rounder.round(coarse, map.rounding == 1);
            }
            if (what == WAY && lacks(WAY)) {
                fillWay();
                rounder.round(way, map.rounding == 1);
            }
            if (what == ORDER && lacks(ORDER)) {
                sortCells();
            }
            return this;
        }

        /** Who lives where in OLD, which needs none of the tables. */
        void makeLives() {
            if (lacks(LIVES)) {
                shareUnknown();
            }
        }

        private boolean lacks(int what) {
            boolean made = (done & what) != 0;
            done = done | what;
            return !made;
        }

        private void shareUnknown() {
            sharing.clear();
            int known = 0;
            int cellsInAll = 0;
            for (int zone = 0; zone < ZONES; zone++) {
                int cells = map.cellsOf(OLD, zone);
                lives[zone] = cells > 0 ? map.counted[group * SLOTS + zone] : 0;
                sharing.add(0, zone, lives[zone], cells);
                known += lives[zone];
                cellsInAll += cells;
            }
            unknown = map.toldOf(group) - known;
            aside = map.sharing == 0 || cellsInAll == 0 ? unknown : 0;
            sharing.people[0] = unknown - aside;
            sharing.cut();
            sharing.giveByRests();
            for (int zone = 0; zone < ZONES; zone++) {
                lives[zone] += sharing.given[zone];
            }
        }

        private void fillMoves() {
            moves.clear();
            System.arraycopy(lives, 0, moves.people, 0, ZONES);
            int cells = map.cells();
            for (int cell = 0; cell < cells; cell++) {
                int old = map.at(OLD, cell);
                if (old < ZONES) {
                    moves.add(old, map.at(NEW, cell), map.weightAt(group, cell), 1);
                }
            }
        }

        private void fillBack() {
            back.clear();
            int cells = map.cells();
            for (int cell = 0; cell < cells; cell++) {
                int zone = map.at(NEW, cell);
                if (zone < ZONES) {
                    back.add(zone, map.at(OLD, cell), map.weightAt(group, cell), 1);
                }
            }
            for (int zone = 0; zone < ZONES; zone++) {
                back.people[zone] = moves.column(zone);
            }
        }

        private void fillCoarse() {
            coarse.clear();
            System.arraycopy(lives, 0, coarse.people, 0, ZONES);
            int cells = map.cells();
            for (int cell = 0; cell < cells; cell++) {
                int old = map.at(OLD, cell);
                int zone = map.at(NEW, cell);
                if (old < ZONES) {
                    int column = zone < ZONES ? map.districts[zone] : DISTRICTS;
                    coarse.add(old, column, map.weightAt(group, cell), 1);
                }
            }
        }

        private void fillWay() {
            way.clear();
            int cells = map.cells();
            for (int cell = 0; cell < cells; cell++) {
                int zone = map.at(NEW, cell);
                if (zone < ZONES) {
                    way.add(map.districts[zone], zone, map.weightAt(group, cell), 1);
                }
            }
            for (int district = 0; district < DISTRICTS; district++) {
                way.people[district] = coarse.column(district);
            }
        }

        /** What falls to a cell exactly: the numerator over underOf; the moves must be ready. */
        int topOf(int cell) {
            int zone = map.at(OLD, cell);
            if (zone >= ZONES) {
                return 0;
            }
            int weight = moves.plain[zone] == 1 ? 1 : map.weightAt(group, cell);
            return lives[zone] * weight;
        }

        int underOf(int cell) {
            int zone = map.at(OLD, cell);
            return zone < ZONES ? moves.totals[zone] : 1;
        }

        /** Puts each cell in turn behind those that are denser or alike. */
        private void sortCells() {
            int cells = map.cells();
            for (int cell = 0; cell < cells; cell++) {
                long top = topOf(cell);
                long under = underOf(cell);
                int place = cell;
                while (place > 0
                        && top * underOf(order[place - 1]) > topOf(order[place - 1]) * under) {
                    order[place] = order[place - 1];
                    place--;
                }
                order[place] = cell;
            }
        }
    }

    /** Looks for the WEIGHTS that fit best what was counted. */
    private static final class Fitter {
        final int[] best = new int[LANDS];
        long people;
        /** How many ZONES OLD has: they stand first in the rows below. */
        private int zones;
        private final int[] counted = new int[ZONES];
        /** By ZONE and LAND how many cells there are. */
        private final int[] cells = new int[ZONES * LANDS];
        private final int[] landCells = new int[LANDS];
        private final int[] row = new int[LANDS];
        /** What the cells of each ZONE weigh, and those of all. */
        private final int[] weighed = new int[ZONES];
        private long weighedInAll;
        private long bestMisfit;
        private long bestSum;

        /** Takes from the map what WEIGHTS of a GROUP must fit. */
        void look(State map, int group) {
            Arrays.fill(cells, 0);
            Arrays.fill(landCells, 0);
            zones = 0;
            people = 0;
            for (int zone = 0; zone < ZONES; zone++) {
                if (map.cellsOf(OLD, zone) > 0) {
                    countCells(map, zone);
                    counted[zones] = map.counted[group * SLOTS + zone];
                    people += counted[zones];
                    zones++;
                }
            }
            System.arraycopy(map.weights, group * LANDS, best, 0, LANDS);
        }

        private void countCells(State map, int zone) {
            int all = map.cells();
            for (int cell = 0; cell < all; cell++) {
                if (map.at(OLD, cell) == zone) {
                    int land = map.at(LAND, cell);
                    cells[zones * LANDS + land]++;
                    landCells[land]++;
                }
            }
        }

        /** Weighs all cells by four WEIGHTS from a place on: what they weigh together. */
        long load(int[] weights, int first) {
            Arrays.fill(weighed, 0);
            weighedInAll = 0;
            for (int land = 0; land < LANDS; land++) {
                addWeight(land, weights[first + land]);
            }
            return weighedInAll;
        }

        private void addWeight(int land, int weight) {
            for (int zone = 0; zone < zones; zone++) {
                weighed[zone] += weight * cells[zone * LANDS + land];
            }
            weighedInAll += weight * landCells[land];
        }

        /** The MISFIT of the cells as weighed, times what they weigh together. */
        long missed() {
            long sum = 0;
            for (int zone = 0; zone < zones; zone++) {
                sum += Math.abs(counted[zone] * weighedInAll - people * weighed[zone]);
            }
            return sum;
        }

        void findBest() {
            int rows = 1;
            for (int land = 0; land < LANDS; land++) {
                rows *= landCells[land] > 0 ? MOST_WEIGHT + 1 : 1;
                row[land] = landCells[land] > 0 ? 0 : best[land];
            }
            load(row, 0);
            bestSum = 0;
            bestMisfit = 1;
            // no row is better than one without any misfit
            for (int each = 0; each < rows && bestMisfit > 0; each++) {
                if (weighedInAll > 0) {
                    tryRow();
                }
                nextRow();
            }
        }

        private void tryRow() {
            long misfit = missed();
            if (bestSum == 0 || misfit * bestSum < bestMisfit * weighedInAll) {
                bestMisfit = misfit;
                bestSum = weighedInAll;
                System.arraycopy(row, 0, best, 0, LANDS);
            }
        }

        /** Counts up, the last LAND first; WEIGHTS of LANDS that no ZONE has stay. */
        private void nextRow() {
            for (int land = LANDS - 1; land >= 0; land--) {
                if (landCells[land] > 0 && row[land] < MOST_WEIGHT) {
                    row[land]++;
                    addWeight(land, 1);
                    return;
                }
                if (landCells[land] > 0) {
                    addWeight(land, -row[land]);
                    row[land] = 0;
                }
            }
        }
    }

    /** The bits of numbers that are not below 0, found by arithmetic alone. */
    private static final class Bits {
        private static final int DOUBLE_BIAS = 1023;
        private static final int FLOAT_BIAS = 127;

        static long ofDouble(double number) {
            return of(number, DOUBLE_BIAS, 52);
        }

        static long ofFloat(float number) {
            return of((double) number, FLOAT_BIAS, 23);
        }

        private static long of(double number, int bias, int places) {
            double part = number;
            int power = 0;
            for (; part >= 2.0 && power < bias; power++) {
                part = part / 2.0;
            }
            for (; part < 1.0 && power > 1 - bias; power--) {
                part = part * 2.0;
            }
            double one = (double) (1L << places);
            if (part < 1.0) {
                // below the least power there is no hidden first bit
                return (long) (part * one);
            }
            return ((long) (power + bias) << places) + (long) ((part - 1.0) * one);
        }
    }
}
