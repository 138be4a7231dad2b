import java.util.function.Consumer;
import java.util.function.Supplier;
import java.util.function.ToLongFunction;

/** Looks at all that can be seen of an object, to tell whether a call left it as it was. */
final class Looks {
    private static final int[] TARGETS = {0, 1, 2, 8};

    private Looks() {
    }

    /** A whole map of six cells, two groups and other weights: six acts. The tape is "h=5". */
    static ZoneShares told() {
        ZoneShares x = Checks.map("aab/a.b", "aba/cb.", "012/001");
        Checks.counts(x, 0, "a=10,b=7,?=5");
        Checks.counts(x, 1, "b=3,c=4");
        x.weigh(1, 1, 4);
        Checks.tell(x, "h=5");
        return x;
    }

    /** The same with another tape. */
    static ZoneShares told(String tape) {
        ZoneShares x = told();
        x.end(0);
        Checks.tell(x, tape);
        return x;
    }

    /** A call has the answer that is due, and leaves all as it was, the tape too. */
    static void leaves(String call, Supplier<ZoneShares> made, ToLongFunction<ZoneShares> act, long due) {
        same(call, made, act, due, x -> { });
    }

    /** A call has the answer that is due, and leaves all as it was, but the tape is empty. */
    static void leavesButTape(String call, Supplier<ZoneShares> made, ToLongFunction<ZoneShares> act, long due) {
        same(call, made, act, due, x -> x.end(0));
    }

    /** A call has the answer that is due, and all is as if something else had been done instead. */
    static void same(String call, Supplier<ZoneShares> made, ToLongFunction<ZoneShares> act, long due,
            Consumer<ZoneShares> instead) {
        Checks.due(call, act.applyAsLong(made.get()), due);
        Supplier<ZoneShares> one = () -> {
            ZoneShares x = made.get();
            act.applyAsLong(x);
            return x;
        };
        Supplier<ZoneShares> other = () -> {
            ZoneShares x = made.get();
            instead.accept(x);
            return x;
        };
        // new objects each time: none of them is used for more than its 512 calls
        for (int undone = 0; undone <= 9; undone++) {
            alike(call + ", " + undone + " undone", undo(one.get(), undone), undo(other.get(), undone));
        }
        ZoneShares x = one.get();
        ZoneShares y = other.get();
        Checks.due(call + ", the tape as OLD", x.layer(0), y.layer(0));
        alike(call + ", the tape as OLD", x, y);
        x = one.get();
        y = other.get();
        Checks.due(call + ", the tape as COUNTS", x.counts(0), y.counts(0));
        alike(call + ", the tape as COUNTS", x, y);
    }

    private static ZoneShares undo(ZoneShares x, int times) {
        for (int k = 0; k < times; k++) {
            x.undo();
        }
        return x;
    }

    static void alike(String call, ZoneShares x, ZoneShares y) {
        String seen = look(x);
        String due = look(y);
        if (!seen.equals(due)) {
            System.out.println("seen " + seen);
            System.out.println("due  " + due);
        }
        Checks.due(call + ": all looks as it should", seen.equals(due));
    }

    static String look(ZoneShares x) {
        StringBuilder s = new StringBuilder();
        for (int what = 0; what < 12; what++) {
            s.append(x.count(what)).append(' ');
        }
        for (int place = 0; place < 36; place++) {
            s.append(x.cell(place / 12, place / 4 % 3, place % 4)).append(' ');
        }
        for (int zone = 0; zone < 8; zone++) {
            s.append(x.districtOf(zone)).append(' ');
        }
        for (int what = 0; what < 4; what++) {
            s.append(x.apart(what)).append(' ');
        }
        s.append(x.piece(-1, 0)).append('\n');
        for (int group = 0; group < 3; group++) {
            lookAt(x, group, s);
        }
        return s.toString();
    }

    private static void lookAt(ZoneShares x, int group, StringBuilder s) {
        for (int land = 0; land < 4; land++) {
            s.append(x.weight(group, land)).append(' ').append(x.coarse(group, land, 0)).append(' ')
                    .append(x.coarse(group, land, 1)).append(' ');
        }
        for (int what = 0; what <= 10; what++) {
            s.append(x.people(group, what)).append(' ');
        }
        for (int zone : TARGETS) {
            for (int old = 0; old < 3; old++) {
                s.append(x.moved(group, old, zone)).append(' ');
            }
            s.append(x.returned(group, zone)).append(' ').append(x.exact(group, zone, 1)).append(' ')
                    .append(x.byWay(group, zone)).append(' ');
        }
        s.append(x.astray(group)).append(' ').append(x.misfit(group, 0)).append(' ')
                .append(x.misfit(group, 1)).append(' ').append(x.off(group)).append(' ')
                .append(x.surface(group, 0, 0, 0)).append(' ').append(x.dense(group, 0, 0)).append(' ')
                .append(x.densest(group, 0)).append(' ').append(x.densest(group, 1)).append('\n');
    }
}
