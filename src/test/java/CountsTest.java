/** Promises 5 and 14: counts told, and people with what they have of the unknown. */
public final class CountsTest {
    public static void main(String[] args) {
        goodTexts();
        faults();
        withoutThese();
        inPlaceOfThose();
        unknownAside();
        unknownShared();
        Checks.finish("CountsTest");
    }

    private static void goodTexts() {
        good("", 0);
        good("a=0", 0);
        good("?=9999", 9999);
        good("h=1,a=2", 3);
        good("a=0007", 7);
        good("a=00000000000000000000000000009999", 9999);
        good("a=9999,b=9999,c=9999,d=9999,e=9999,f=9999,g=9999,h=9999,?=9999", 89991);
    }

    private static void good(String text, int people) {
        ZoneShares x = new ZoneShares();
        Checks.due("counts(1) of " + text, Checks.counts(x, 1, text), people);
        Checks.due("people(1, 10)", x.people(1, 10), people);
        Checks.due("count(8)", x.count(8), 1);
        Checks.due("count(9)", x.count(9), 0);
    }

    private static void faults() {
        fault("i=1", 0, 1);
        fault("=1", 0, 1);
        fault(",a=1", 0, 1);
        fault("A=1", 0, 1);
        fault("a", 1, 1);
        fault("a1", 1, 1);
        fault("a =1", 1, 1);
        fault("a=", 2, 1);
        fault("a=x", 2, 1);
        fault("a=-1", 2, 1);
        fault("a=,b=1", 2, 1);
        fault("a=10000", 2, 2);
        fault("a=10000x", 2, 2);
        fault("a=99999999999999999999", 2, 2);
        fault("b=1,a=0010000", 6, 2);
        fault("a=1 ", 3, 1);
        fault("a=1;b=2", 3, 1);
        fault("a=1,", 4, 1);
        fault("a=1,,", 4, 1);
        fault("a=1,a=2", 4, 3);
        fault("?=1,a=1,?", 8, 3);
        fault("a=1,b=2,c=3,d=4,e=5,f=6,g=7,h=8,?=9,a", 36, 3);
        fault("a=10000,a=1", 2, 2);
    }

    private static void fault(String text, int place, int kind) {
        ZoneShares x = new ZoneShares();
        Checks.counts(x, 0, "b=5");
        Checks.due("counts(0) of " + text, Checks.counts(x, 0, text), -2 - (8 * place + kind));
        Checks.due("people(0, 10)", x.people(0, 10), 5);
        Checks.due("count(8)", x.count(8), 1);
        Checks.due("count(9)", x.count(9), 0);
    }

    private static void withoutThese() {
        ZoneShares x = new ZoneShares();
        Checks.tell(x, "a=1");
        for (int group : new int[] {-1, 3, Integer.MIN_VALUE, Integer.MAX_VALUE}) {
            Checks.due("counts(" + group + ")", x.counts(group), -1);
            Checks.due("the tape stays", x.count(9), 3);
            Checks.due("people(" + group + ", 10)", x.people(group, 10), -1);
        }
        Checks.due("count(8)", x.count(8), 0);
        Checks.due("counts(2)", x.counts(2), 1);
        Checks.due("people(2, -1)", x.people(2, -1), -1);
        Checks.due("people(2, 11)", x.people(2, 11), -1);
    }

    private static void inPlaceOfThose() {
        ZoneShares x = new ZoneShares();
        Checks.layer(x, 0, "ab");
        Checks.counts(x, 0, "a=1,b=2,?=3");
        Checks.counts(x, 1, "a=50");
        Checks.counts(x, 0, "b=7");
        people(x, 0, 0, 0, 0, 7);
        Checks.due("people(0, 10)", x.people(0, 10), 7);
        Checks.due("people(1, 0)", x.people(1, 0), 50);
        Checks.due("people(2, 0)", x.people(2, 0), 0);
    }

    /** Of a GROUP the UNKNOWN, those ASIDE, and then of each ZONE. */
    private static void people(ZoneShares x, int group, int unknown, int aside, int... lives) {
        Checks.due("people(" + group + ", 8)", x.people(group, 8), unknown);
        Checks.due("people(" + group + ", 9)", x.people(group, 9), aside);
        for (int zone = 0; zone < lives.length; zone++) {
            Checks.due("people(" + group + ", " + zone + ")", x.people(group, zone), lives[zone]);
        }
    }

    private static void unknownAside() {
        ZoneShares x = new ZoneShares();
        Checks.counts(x, 0, "a=10,b=7,h=3,?=5");
        people(x, 0, 25, 25, 0, 0, 0, 0, 0, 0, 0, 0);
        Checks.layer(x, 0, "ab.");
        people(x, 0, 8, 8, 10, 7, 0, 0, 0, 0, 0, 0);
        Checks.due("people(0, 10)", x.people(0, 10), 25);
        Checks.layer(x, 0, "h");
        people(x, 0, 22, 22, 0, 0, 0, 0, 0, 0, 0, 3);
    }

    private static void unknownShared() {
        ZoneShares x = new ZoneShares();
        x.settle(1, 1);
        Checks.counts(x, 0, "a=10,b=7,h=3,?=5");
        people(x, 0, 25, 25, 0, 0);
        Checks.layer(x, 0, "...");
        people(x, 0, 25, 25, 0, 0);
        // 80 by 17: 4 and 12 over; 56 by 17: 3 and 5 over
        Checks.layer(x, 0, "abbbbb");
        people(x, 0, 8, 0, 15, 10, 0, 0, 0, 0, 0, 0);
        Checks.layer(x, 0, "abc");
        // of like rests the first ZONE; nobody comes where nobody was counted
        Checks.counts(x, 1, "a=1,b=1,c=1,?=4");
        people(x, 1, 4, 0, 3, 2, 2);
        Checks.counts(x, 1, "a=1,b=1,c=1,?=5");
        people(x, 1, 5, 0, 3, 3, 2);
        Checks.counts(x, 1, "b=3,?=2");
        people(x, 1, 2, 0, 0, 5, 0);
        // nobody counted: by CELLS, here 2 to 1, whatever the WEIGHTS
        Checks.layer(x, 0, "aab");
        Checks.counts(x, 2, "c=2,?=3");
        people(x, 2, 5, 0, 3, 2, 0);
        // always by REMAINDERS
        x.settle(0, 1);
        people(x, 2, 5, 0, 3, 2, 0);
        Checks.due("people(2, 10)", x.people(2, 10), 5);
    }
}
