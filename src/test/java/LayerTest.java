/** Promises 4 and 12: layers told and their cells. */
public final class LayerTest {
    private static final String WIDEST = "abcdefgh.abc/bcdefgh.abcd/cdefgh.abcde/defgh.abcdef/"
            + "efgh.abcdefg/fgh.abcdefgh/gh.abcdefgh./h.abcdefgh.a";

    public static void main(String[] args) {
        goodTexts();
        faultsOfOld();
        faultsOfOthers();
        withoutThese();
        whatAFaultLeaves();
        toldAnew();
        cells();
        Checks.finish("LayerTest");
    }

    private static void goodTexts() {
        good("a", 1);
        good(".", 1);
        good("h.", 2);
        good("a/b", 2);
        good("abcdefgh.abc", 12);
        good("a/b/c/d/e/f/g/h", 8);
        good(WIDEST, 96);
    }

    private static void good(String text, int cells) {
        ZoneShares x = new ZoneShares();
        Checks.due("layer(0) of " + text, Checks.layer(x, 0, text), cells);
        Checks.due("count(0)", x.count(0), cells);
        Checks.due("count(9)", x.count(9), 0);
        Checks.due("count(8)", x.count(8), 1);
    }

    private static void faultsOfOld() {
        fault(0, "", 0, 1);
        fault(0, "/", 0, 1);
        fault(0, "i", 0, 1);
        fault(0, "A", 0, 1);
        fault(0, "0", 0, 1);
        fault(0, "" + (char) 225, 0, 1);
        fault(0, "ab a", 2, 1);
        fault(0, "a/", 2, 1);
        fault(0, "a//a", 2, 1);
        fault(0, "ab/a", 4, 2);
        fault(0, "ab/a/ab", 4, 2);
        fault(0, "ab/abc", 5, 3);
        fault(0, "ab/ab0", 5, 1);
        fault(0, "abcdefghabcd.", 12, 3);
        fault(0, "abcdefghabcd0", 12, 1);
        fault(0, "abcdefghabcd/abcdefghabcde", 25, 3);
        fault(0, "a/a/a/a/a/a/a/a/", 15, 3);
        fault(0, "aa/aa/aa/aa/aa/aa/aa/a/", 22, 2);
        fault(0, WIDEST + "/", 103, 3);
        fault(0, WIDEST + "a", 103, 3);
        fault(0, WIDEST + "aaaaa", 103, 3);
        fault(0, "ab/zb/a", 3, 1);
    }

    private static void faultsOfOthers() {
        fault(1, "", 0, 1);
        fault(1, "0", 0, 1);
        fault(1, "ab", 2, 2);
        fault(1, "ab/abc", 2, 2);
        fault(1, "abc", 3, 4);
        fault(1, "abcd", 3, 3);
        fault(1, "abc0", 3, 1);
        fault(1, "abc/", 4, 1);
        fault(1, "abc/ab", 6, 2);
        fault(1, "abc/ab/", 6, 2);
        fault(1, "abc/abc/", 7, 3);
        fault(1, "abc/abca", 7, 3);
        fault(1, "abc/abc0", 7, 1);
        fault(2, "4", 0, 1);
        fault(2, ".", 0, 1);
        fault(2, "a", 0, 1);
        fault(2, "012/02", 6, 2);
        fault(2, "012", 3, 4);
        fault(2, "0123", 3, 3);
        fault(2, "012a", 3, 1);
        fault(2, "012/333/", 7, 3);
    }

    private static void fault(int what, String text, int place, int kind) {
        ZoneShares x = new ZoneShares();
        if (what > 0) {
            Checks.layer(x, 0, "abc/a..");
        }
        int acts = x.count(8);
        Checks.due("layer(" + what + ") of " + text, Checks.layer(x, what, text), -2 - (8 * place + kind));
        Checks.due("count(7)", x.count(7), what > 0 ? 1 : 0);
        Checks.due("count(8)", x.count(8), acts);
        Checks.due("count(9)", x.count(9), 0);
    }

    private static void withoutThese() {
        ZoneShares x = new ZoneShares();
        Checks.tell(x, "ab");
        for (int what : new int[] {-1, 1, 2, 3, Integer.MIN_VALUE, Integer.MAX_VALUE}) {
            Checks.due("layer(" + what + ")", x.layer(what), -1);
            Checks.due("the tape stays", x.count(9), 2);
        }
        Checks.due("layer(0)", x.layer(0), 2);
    }

    private static void whatAFaultLeaves() {
        ZoneShares x = Checks.map("ab", "b.", "01");
        Checks.due("layer(0)", Checks.layer(x, 0, "abc/"), -2 - 33);
        Checks.due("layer(1)", Checks.layer(x, 1, "bbb"), -2 - 19);
        Checks.due("layer(2)", Checks.layer(x, 2, "33/"), -2 - 19);
        Checks.due("count(7)", x.count(7), 7);
        Checks.due("count(8)", x.count(8), 3);
        Checks.due("cell(1, 0, 0)", x.cell(1, 0, 0), 'b');
        Checks.due("cell(2, 0, 0)", x.cell(2, 0, 0), '0');
    }

    private static void toldAnew() {
        ZoneShares x = Checks.map("abc/abc", "aaa/bbb", "012/300");
        Checks.due("as large", Checks.layer(x, 0, "c../..a"), 6);
        Checks.due("count(7)", x.count(7), 7);
        Checks.due("cell(0, 0, 0)", x.cell(0, 0, 0), 'c');
        Checks.due("cell(1, 1, 2)", x.cell(1, 1, 2), 'b');
        Checks.due("as many cells, otherwise large", Checks.layer(x, 0, "ab/ab/ab"), 6);
        Checks.due("count(7)", x.count(7), 1);
        Checks.due("cell(1, 0, 0)", x.cell(1, 0, 0), -1);
        Checks.due("NEW as large as it is now", Checks.layer(x, 1, "aa/bb/cc"), 6);
        Checks.due("count(7)", x.count(7), 3);
        Checks.due("LAND as large as it was", Checks.layer(x, 2, "012/012"), -2 - 19);
        Checks.due("undo()", x.undo(), 5);
        Checks.due("undo()", x.undo(), 4);
        Checks.due("count(7)", x.count(7), 7);
        Checks.due("cell(2, 1, 0)", x.cell(2, 1, 0), '3');
        Checks.due("told as it was is an act", Checks.layer(x, 0, "c../..a"), 6);
        Checks.due("count(8)", x.count(8), 5);
    }

    private static void cells() {
        ZoneShares x = new ZoneShares();
        Checks.due("cell of nothing", x.cell(0, 0, 0), -1);
        Checks.layer(x, 0, "a.h/bcd");
        Checks.due("cell(0, 0, 0)", x.cell(0, 0, 0), 'a');
        Checks.due("cell(0, 0, 1)", x.cell(0, 0, 1), '.');
        Checks.due("cell(0, 0, 2)", x.cell(0, 0, 2), 'h');
        Checks.due("cell(0, 1, 0)", x.cell(0, 1, 0), 'b');
        Checks.due("cell(1, 0, 0)", x.cell(1, 0, 0), -1);
        Checks.due("cell(0, 2, 0)", x.cell(0, 2, 0), -1);
        Checks.due("cell(0, 0, 3)", x.cell(0, 0, 3), -1);
        Checks.due("cell(0, -1, 0)", x.cell(0, -1, 0), -1);
        Checks.due("cell(0, 0, -1)", x.cell(0, 0, -1), -1);
        Checks.layer(x, 2, "012/321");
        Checks.due("cell(2, 1, 0)", x.cell(2, 1, 0), '3');
        Checks.due("cell(2, 0, 2)", x.cell(2, 0, 2), '2');
        Checks.due("cell(-1, 0, 0)", x.cell(-1, 0, 0), -1);
        Checks.due("cell(3, 0, 0)", x.cell(3, 0, 0), -1);
        Checks.due("cell(0, most, most)", x.cell(0, Integer.MAX_VALUE, Integer.MAX_VALUE), -1);
        Checks.due("cell(0, least, 0)", x.cell(0, Integer.MIN_VALUE, 0), -1);
    }
}
