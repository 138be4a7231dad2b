/** Each sentence of Terms I on COUNTS, their FAULTS and the UNKNOWN, and of promises 5 and 14. */
public final class CountsEdgesTest {
    private static final String LETTERS = "abcdefgh?";

    public static void main(String[] args) {
        nobodyAtFirst();
        partsOfALetter();
        numbers();
        noBlanks();
        noFault();
        cannotStand();
        everyByte();
        numberNotAsTold();
        toldAlready();
        firstFault();
        unknown();
        leftAside();
        shared();
        sharedByCells();
        sharedByRemainders();
        noZone();
        tellsCounts();
        faultLeaves();
        refusedLeaves();
        peopleOfAZone();
        unknownAsTold();
        unknownLeftAside();
        allThatAreTold();
        peopleOfOthers();
        Checks.finish("CountsEdgesTest");
    }

    private static void fault(String text, int place, int kind) {
        ZoneShares x = new ZoneShares();
        Checks.counts(x, 1, "a=3,?=4");
        Checks.due("counts(1) of " + text, Checks.counts(x, 1, text), -2 - (8 * place + kind));
        Checks.due("people behind it", x.people(1, 10), 7);
        Checks.due("ACTS behind it", x.count(8), 1);
        Checks.due("the TAPE behind it", x.count(9), 0);
    }

    private static ZoneShares eight() {
        ZoneShares x = new ZoneShares();
        Checks.layer(x, 0, "abcdefgh");
        return x;
    }

    private static void people(ZoneShares x, int group, int... due) {
        for (int what = 0; what < due.length; what++) {
            Checks.due("people(" + group + ", " + what + ")", x.people(group, what), due[what]);
        }
    }

    private static void nobodyAtFirst() {
        Checks.says("I", "COUNTS of a GROUP (0 to 2; at first nobody) are told by a text:");
        ZoneShares x = eight();
        for (int group = 0; group < 3; group++) {
            people(x, group, 0, 0, 0, 0, 0, 0, 0, 0, 0, 0, 0);
        }
        for (int group = 0; group < 3; group++) {
            Checks.due("counts(" + group + ")", Checks.counts(x, group, "c=" + (group + 5)), group + 5);
            for (int other = 0; other < 3; other++) {
                Checks.due("a GROUP of its own", x.people(other, 2), other > group ? 0 : other + 5);
            }
        }
        Checks.due("no GROUP 3", Checks.counts(x, 3, "c=1"), -1);
        Checks.due("no GROUP -1", x.counts(-1), -1);
    }

    private static void partsOfALetter() {
        Checks.says("I", "[ PART { , PART } ], PART: a letter a to h or ?, then = and a NUMBER");
        Checks.due("no PART", Checks.counts(eight(), 0, ""), 0);
        for (int slot = 0; slot < 9; slot++) {
            ZoneShares x = eight();
            Checks.due("one PART", Checks.counts(x, 0, LETTERS.charAt(slot) + "=17"), 17);
            for (int what = 0; what < 9; what++) {
                Checks.due("people(0, " + what + ") of " + LETTERS.charAt(slot), x.people(0, what),
                        what == slot ? 17 : 0);
            }
        }
        ZoneShares x = eight();
        Checks.due("nine PARTS", Checks.counts(x, 2, "a=1,b=2,c=4,d=8,e=16,f=32,g=64,h=128,?=256"), 511);
        people(x, 2, 1, 2, 4, 8, 16, 32, 64, 128, 256);
        Checks.due("nine PARTS in another order", Checks.counts(x, 2, "?=9,h=8,a=1,g=7,b=2,f=6,c=3,e=5,d=4"), 45);
        people(x, 2, 1, 2, 3, 4, 5, 6, 7, 8, 9);
        fault("a=1,b=2,c=4,d=8,e=16,f=32,g=64,h=128,?=256,", 43, 1);
        fault("a=1,b=2,c=4,d=8,e=16,f=32,g=64,h=128,?=256,?=1", 43, 3);
    }

    private static void numbers() {
        Checks.says("I", "a NUMBER 0 to 9999 (digits, as far as they go on);");
        for (int slot = 0; slot < 9; slot++) {
            String part = LETTERS.charAt(slot) + "=";
            for (int number : new int[] {0, 1, 9, 10, 11, 99, 100, 101, 999, 1000, 1001, 9998, 9999}) {
                ZoneShares x = eight();
                Checks.due(part + number, Checks.counts(x, 0, part + number), number);
                Checks.due("people", x.people(0, slot), number);
                Checks.due("with zeros ahead", Checks.counts(x, 1, part + "00000000" + number), number);
            }
            for (String number : "10000 10001 19999 99999 65536 4294967296 4294967297 18446744073709551617".split(" ")) {
                fault(part + number, 2, 2);
                fault(part + number + ",", 2, 2);
            }
        }
        Checks.due("most", Checks.counts(eight(), 0, "a=9999,b=9999,c=9999,d=9999,e=9999,f=9999,g=9999,h=9999,?=9999"),
                89991);
        // as far as they go on: to the TAPE's end
        Checks.due("200 bytes", Checks.counts(eight(), 0, "a=" + "0".repeat(194) + "1234"), 1234);
        fault("a=" + "0".repeat(193) + "10000", 2, 2);
        fault("a=" + "9".repeat(198), 2, 2);
    }

    private static void noBlanks() {
        Checks.says("I", "no blanks.");
        String text = "a=1,b=23,?=4";
        for (int place = 0; place <= text.length(); place++) {
            fault(text.substring(0, place) + " " + text.substring(place), place, 1);
            fault(text.substring(0, place) + "\n" + text.substring(place), place, 1);
        }
        fault(" ", 0, 1);
    }

    private static void noFault() {
        Checks.says("I", "FAULT likewise: 1 (as above);");
        // likewise: 8 times the place, the first along the text
        fault("x", 0, 1);
        fault("a=1x", 3, 1);
        fault("a=1,x", 4, 1);
        fault("a=1,b=2x", 7, 1);
        fault("a=9999,b=9999,c=9999,d=9999,e=9999,f=9999,g=9999,h=9999,?=9999x", 62, 1);
        fault("a=" + "0".repeat(197) + "x", 199, 1);
    }

    private static void cannotStand() {
        Checks.says("I", "FAULT likewise: 1 (as above);");
        // the text ends (the place behind its last byte)
        String text = "a=1,h=23,?=4";
        for (int end = 0; end <= text.length(); end++) {
            String part = text.substring(0, end);
            boolean whole = end == 0 || end == 3 || end == 7 || end == 8 || end == 12;
            if (whole) {
                Checks.due("counts of " + part, Checks.counts(eight(), 0, part) >= 0);
            } else {
                fault(part, end, 1);
            }
        }
        fault("a==1", 2, 1);
        fault("a=1=2", 3, 1);
        fault("a=1,,b=2", 4, 1);
        fault("ab=1", 1, 1);
        fault("a=+1", 2, 1);
        fault("a=-1", 2, 1);
        fault("a=1.5", 3, 1);
    }

    private static void everyByte() {
        for (int b = 0; b < 256; b++) {
            String sign = "" + (char) b;
            boolean letter = LETTERS.contains(sign);
            fault(sign, letter ? 1 : 0, 1);
            fault("c=5," + sign, letter && b != 'c' ? 5 : 4, b == 'c' ? 3 : 1);
            fault("c" + sign, b == '=' ? 2 : 1, 1);
            boolean digit = b >= '0' && b <= '9';
            if (digit) {
                Checks.due("digit " + sign, Checks.counts(eight(), 0, "c=" + sign), b - '0');
                Checks.due("digit " + sign, Checks.counts(eight(), 0, "c=6" + sign), 60 + b - '0');
            } else {
                fault("c=" + sign, 2, 1);
                fault("c=6" + sign, b == ',' ? 4 : 3, 1);
            }
        }
    }

    private static void numberNotAsTold() {
        Checks.says("I", "2 a NUMBER that is not as told (where it begins);");
        fault("a=10000", 2, 2);
        fault("a=10000x", 2, 2);
        fault("a=10000,a=1", 2, 2);
        fault("a=9999,b=10000", 9, 2);
        fault("a=1,b=2,?=99999", 10, 2);
        fault("a=00000000000000010000", 2, 2);
        Checks.due("the last that is taken", Checks.counts(eight(), 0, "a=9999"), 9999);
        // where none begins it is 1
        fault("a=", 2, 1);
        fault("a=,", 2, 1);
    }

    private static void toldAlready() {
        Checks.says("I", "3 a letter, ? told already.");
        for (int slot = 0; slot < 9; slot++) {
            char sign = LETTERS.charAt(slot);
            fault(sign + "=1," + sign + "=2", 4, 3);
            fault(sign + "=0," + sign, 4, 3);
            fault(sign + "=0," + sign + "=10000", 4, 3);
            char other = LETTERS.charAt((slot + 1) % 9);
            fault(sign + "=1," + other + "=22," + sign + "=3", 9, 3);
            Checks.due("another", Checks.counts(eight(), 0, sign + "=1," + other + "=2"), 3);
        }
        // told by an earlier text is not told already
        ZoneShares x = eight();
        Checks.counts(x, 0, "a=1");
        Checks.due("a text of its own", Checks.counts(x, 0, "a=2"), 2);
        Checks.counts(x, 0, "a=1,x");
        Checks.due("behind a FAULT, too", Checks.counts(x, 0, "a=3"), 3);
    }

    private static void firstFault() {
        Checks.says("I", "FAULT likewise:");
        fault("x,a=10000,a=1", 0, 1);
        fault("a=10000,x", 2, 2);
        fault("a=1,a=10000,x", 4, 3);
        fault("a=1,b=10000,a=1", 6, 2);
        fault("a=1 ,a=2", 3, 1);
    }

    private static void unknown() {
        Checks.says("I", "UNKNOWN: those of ?, and of ZONES that OLD has not.");
        ZoneShares x = new ZoneShares();
        Checks.counts(x, 0, "a=1,b=2,c=4,d=8,e=16,f=32,g=64,h=128,?=256");
        Checks.due("without OLD", x.people(0, 8), 511);
        String[] olds = {"a", "h", "ab", "....", "hgfedcba", "c.d", "aaa/..b"};
        int[] due = {510, 383, 508, 511, 256, 499, 508};
        for (int k = 0; k < olds.length; k++) {
            Checks.layer(x, 0, olds[k]);
            Checks.due("UNKNOWN by " + olds[k], x.people(0, 8), due[k]);
            Checks.due("ASIDE by " + olds[k], x.people(0, 9), due[k]);
        }
        // ZONES of NEW alone are none of OLD
        x = Checks.map("ab", "cd", "00");
        Checks.counts(x, 0, "a=1,b=2,c=4,d=8");
        Checks.due("ZONES of NEW", x.people(0, 8), 12);
    }

    private static void leftAside() {
        Checks.says("I", "SETTING UNKNOWN 0: they are left ASIDE;");
        ZoneShares x = Checks.map("ab", "ab", "00");
        Checks.counts(x, 0, "a=10,b=20,c=3,?=4");
        people(x, 0, 10, 20, 0, 0, 0, 0, 0, 0, 7, 7, 37);
        Checks.due("not MOVED", x.moved(0, -1, -1), 30);
        Checks.due("people ASIDE", x.count(11), 7);
        x.settle(1, 1);
        Checks.due("people ASIDE", x.count(11), 0);
        x.settle(1, 0);
        people(x, 0, 10, 20, 0, 0, 0, 0, 0, 0, 7, 7, 37);
    }

    private static void shared() {
        Checks.says("I", "1: SHARED among ZONES that OLD has, by what was counted there");
        ZoneShares x = Checks.map("abbbb", "abbbb", "01111");
        x.settle(1, 1);
        Checks.counts(x, 0, "a=30,b=10,c=8");
        // 3 to 1, whatever the CELLS and the WEIGHTS are
        people(x, 0, 36, 12, 0, 0, 0, 0, 0, 0, 8, 0, 48);
        x.weigh(0, 1, 9);
        people(x, 0, 36, 12, 0, 0, 0, 0, 0, 0, 8, 0, 48);
        Checks.due("they are MOVED", x.moved(0, -1, -1), 48);
        // nobody comes where nobody was counted
        Checks.counts(x, 0, "a=1,?=9999");
        people(x, 0, 10000, 0, 0, 0, 0, 0, 0, 0, 9999, 0, 10000);
        // a ZONE that OLD has not gets none, though many were counted there
        Checks.counts(x, 0, "b=1,h=9999");
        people(x, 0, 0, 10000, 0, 0, 0, 0, 0, 0, 9999, 0, 10000);
        // none to share
        Checks.counts(x, 0, "a=5,b=6");
        people(x, 0, 5, 6, 0, 0, 0, 0, 0, 0, 0, 0, 11);
    }

    private static void sharedByCells() {
        Checks.says("I", "(if nobody was, by CELLS)");
        ZoneShares x = Checks.map("abbb.", "aaaaa", "01111");
        x.settle(1, 1);
        x.weigh(0, 1, 9);
        Checks.counts(x, 0, "?=8,c=4");
        people(x, 0, 3, 9, 0, 0, 0, 0, 0, 0, 12, 0, 12);
        // the limit: one was counted
        Checks.counts(x, 0, "a=1,?=8,c=4");
        people(x, 0, 13, 0, 0, 0, 0, 0, 0, 0, 12, 0, 13);
        // 4 by 1 and 3 of 4 is whole; 5: 5/4 and 15/4, the rest of b is greater
        Checks.counts(x, 0, "?=5");
        people(x, 0, 1, 4, 0);
        Checks.counts(x, 1, "a=0,b=0,?=4");
        people(x, 1, 1, 3, 0);
    }

    private static void sharedByRemainders() {
        Checks.says("I", ", by REMAINDERS (as below; of like ones the first ZONE);");
        ZoneShares x = Checks.map("abc", "abc", "000");
        x.settle(1, 1);
        // 28 by 1 and 2: 28/3 and 56/3, the greater rest is b's
        Checks.counts(x, 0, "a=1,b=2,?=28");
        people(x, 0, 10, 21, 0);
        x.settle(0, 1);
        // BALANCED would give a one more
        people(x, 0, 10, 21, 0);
        Checks.counts(x, 0, "a=1,b=1,c=1,?=1");
        people(x, 0, 2, 1, 1);
        Checks.counts(x, 0, "a=1,b=1,c=1,?=2");
        people(x, 0, 2, 2, 1);
        Checks.counts(x, 0, "b=1,c=1,?=1");
        people(x, 0, 0, 2, 1);
        // 2 by 9, 6 and 5 of 20: each once, where the rests are greatest
        Checks.counts(x, 0, "a=9,b=6,c=5,?=2");
        people(x, 0, 10, 7, 5);
        Checks.counts(x, 0, "a=5,b=9,c=6,?=2");
        people(x, 0, 5, 10, 7);
        // by CELLS likewise
        Checks.counts(x, 0, "?=4");
        people(x, 0, 2, 1, 1);
    }

    private static void noZone() {
        Checks.says("I", "ASIDE, if OLD has no ZONE.");
        ZoneShares x = new ZoneShares();
        x.settle(1, 1);
        Checks.counts(x, 0, "a=3,?=4");
        people(x, 0, 0, 0, 0, 0, 0, 0, 0, 0, 7, 7, 7);
        Checks.layer(x, 0, "..");
        people(x, 0, 0, 0, 0, 0, 0, 0, 0, 0, 7, 7, 7);
        Checks.layer(x, 0, ".b");
        people(x, 0, 0, 7, 0, 0, 0, 0, 0, 0, 7, 0, 7);
    }

    private static void tellsCounts() {
        Checks.says("5", "The TAPE, which is empty then, tells COUNTS of a GROUP (0 to 2) in place of those it had: how many people;");
        ZoneShares x = eight();
        for (int group = 0; group < 3; group++) {
            Checks.due("how many", Checks.counts(x, group, "a=1,b=2,?=3"), 6);
            Checks.due("the TAPE is empty", x.count(9), 0);
            Checks.due("in place of those", Checks.counts(x, group, "b=5"), 5);
            people(x, group, 0, 5, 0, 0, 0, 0, 0, 0, 0, 0, 5);
        }
        Checks.due("an empty TAPE tells nobody", x.counts(1), 0);
        people(x, 1, 0, 0, 0, 0, 0, 0, 0, 0, 0, 0, 0);
        people(x, 0, 0, 5, 0, 0, 0, 0, 0, 0, 0, 0, 5);
        people(x, 2, 0, 5, 0, 0, 0, 0, 0, 0, 0, 0, 5);
    }

    private static void faultLeaves() {
        Checks.says("5", "-2 - its FAULT, and but for the TAPE nothing happens;");
        String[] texts = {"x", "a", "a=", "a=1,", "a=7,b=10000", "a=7,b=8,a", "a=7,b=8 "};
        int[] faults = {1, 9, 17, 33, 50, 67, 57};
        for (int k = 0; k < texts.length; k++) {
            for (int group = 0; group < 3; group++) {
                String text = texts[k];
                int one = group;
                Looks.leavesButTape("counts(" + group + ") of " + text, () -> Looks.told(text), x -> x.counts(one),
                        -2 - faults[k]);
            }
        }
    }

    private static void refusedLeaves() {
        Checks.says("5", "NONE, and nothing happens (the TAPE stays), without that GROUP.");
        for (int group : new int[] {-1, -2, 3, 4, 256, Integer.MIN_VALUE, Integer.MAX_VALUE}) {
            Looks.leaves("counts(" + group + ")", () -> Looks.told("a=77"), x -> x.counts(group), -1);
            Looks.leaves("counts(" + group + ") of a FAULT", () -> Looks.told("x"), x -> x.counts(group), -1);
        }
    }

    private static void peopleOfAZone() {
        Checks.says("14", "Of a GROUP what 0 to 7: PEOPLE of that OLD ZONE (with what it has of the UNKNOWN, if these are SHARED),");
        ZoneShares x = eight();
        Checks.counts(x, 1, "a=10,b=20,c=30,d=40,e=50,f=60,g=70,h=80,?=36");
        people(x, 1, 10, 20, 30, 40, 50, 60, 70, 80, 36, 36, 396);
        x.settle(1, 1);
        people(x, 1, 11, 22, 33, 44, 55, 66, 77, 88, 36, 0, 396);
        people(x, 0, 0, 0, 0, 0, 0, 0, 0, 0, 0, 0, 0);
        Checks.layer(x, 0, "a.......");
        people(x, 1, 396, 0, 0, 0, 0, 0, 0, 0, 386, 0, 396);
        x.settle(1, 0);
        people(x, 1, 10, 0, 0, 0, 0, 0, 0, 0, 386, 386, 396);
    }

    private static void unknownAsTold() {
        Checks.says("14", "8: UNKNOWN as told,");
        ZoneShares x = eight();
        Checks.counts(x, 0, "a=1,?=5");
        Checks.due("left ASIDE", x.people(0, 8), 5);
        x.settle(1, 1);
        Checks.due("SHARED", x.people(0, 8), 5);
        Checks.layer(x, 0, "b");
        Checks.due("with a ZONE that OLD has not", x.people(0, 8), 6);
    }

    private static void unknownLeftAside() {
        Checks.says("14", "9: UNKNOWN that are left ASIDE,");
        ZoneShares x = eight();
        Checks.counts(x, 0, "a=1,?=5");
        Checks.due("left ASIDE", x.people(0, 9), 5);
        x.settle(1, 1);
        Checks.due("SHARED", x.people(0, 9), 0);
        Checks.layer(x, 0, ".");
        Checks.due("no ZONE", x.people(0, 9), 6);
    }

    private static void allThatAreTold() {
        Checks.says("14", "10: all that are told.");
        ZoneShares x = new ZoneShares();
        Checks.counts(x, 0, "a=9999,b=9999,c=9999,d=9999,e=9999,f=9999,g=9999,h=9999,?=9999");
        Checks.due("all", x.people(0, 10), 89991);
        Checks.layer(x, 0, "a");
        Checks.due("all", x.people(0, 10), 89991);
        x.settle(1, 1);
        Checks.due("all", x.people(0, 10), 89991);
        Checks.due("all live there", x.people(0, 0), 89991);
    }

    private static void peopleOfOthers() {
        Checks.says("14", "NONE for others.");
        ZoneShares x = Looks.told();
        for (int group = -3; group <= 5; group++) {
            for (int what = -3; what <= 14; what++) {
                boolean there = group >= 0 && group <= 2 && what >= 0 && what <= 10;
                Checks.due("people(" + group + ", " + what + ")", (x.people(group, what) == -1) != there);
            }
        }
        for (int far : new int[] {256, 1 << 16, Integer.MIN_VALUE, Integer.MAX_VALUE}) {
            Checks.due("a GROUP far off", x.people(far, 0), -1);
            Checks.due("a what far off", x.people(0, far), -1);
        }
    }
}
