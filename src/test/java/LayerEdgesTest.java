/** Each sentence of Terms I on LAYERS and their FAULTS, and of promises 4 and 12. */
public final class LayerEdgesTest {
    private static final String[] SIGNS = {".abcdefgh", ".abcdefgh", "0123"};
    private static final String[] NAMES = {"OLD", "NEW", "LAND"};

    public static void main(String[] args) {
        rowsAndSigns();
        noneOrTooMany();
        tooLong();
        allAlikeLong();
        lettersOfOld();
        lettersOfNew();
        digitsOfLand();
        everyByte();
        asLargeAsOld();
        toldAnewOtherwiseLarge();
        wholeMap();
        firstPlace();
        cannotStand();
        aheadOfSoManySigns();
        beyondThese();
        tooFewRows();
        leastOfOnePlace();
        firstSignOfARow();
        tellsALayer();
        faultLeaves();
        refusedLeaves();
        cellAsTold();
        cellWithoutThese();
        Checks.finish("LayerEdgesTest");
    }

    /** A text of so many rows and columns with the signs of a layer in turn. */
    private static String text(int what, int rows, int columns) {
        StringBuilder text = new StringBuilder();
        for (int row = 0; row < rows; row++) {
            text.append(row > 0 ? "/" : "");
            for (int column = 0; column < columns; column++) {
                text.append(SIGNS[what].charAt((row * 5 + column + row * column) % SIGNS[what].length()));
            }
        }
        return text.toString();
    }

    private static ZoneShares old(String text) {
        ZoneShares x = new ZoneShares();
        if (text.length() > 0) {
            Checks.due("layer(0) of " + text, Checks.layer(x, 0, text) > 0);
        }
        return x;
    }

    /** A text (as NEW and LAND behind an OLD of so many rows and columns) has a fault. */
    private static void fault(int what, String old, String text, int place, int kind) {
        ZoneShares x = old(old);
        int acts = x.count(8);
        int cells = x.count(0);
        Checks.due(NAMES[what] + " of " + text + " behind " + old, Checks.layer(x, what, text),
                -2 - (8 * place + kind));
        Checks.due("ACTS behind it", x.count(8), acts);
        Checks.due("LAYERS behind it", x.count(7), acts);
        Checks.due("CELLS behind it", x.count(0), cells);
        Checks.due("the TAPE behind it", x.count(9), 0);
    }

    private static void rowsAndSigns() {
        Checks.says("I", "A LAYER is told by a text of at most 107 bytes: ROW { / ROW }: 1 to 8 ROWS of 1 to 12 signs");
        for (int rows = 1; rows <= 8; rows++) {
            for (int columns = 1; columns <= 12; columns++) {
                ZoneShares x = new ZoneShares();
                for (int what = 0; what < 3; what++) {
                    String text = text(what, rows, columns);
                    Checks.due("layer of " + text, Checks.layer(x, what, text), rows * columns);
                    String last = NAMES[what] + " of " + rows + " by " + columns;
                    Checks.due(last, x.cell(what, rows - 1, columns - 1), text.charAt(text.length() - 1));
                    Checks.due(last, x.cell(what, rows, columns - 1), -1);
                    Checks.due(last, x.cell(what, rows - 1, columns), -1);
                }
                Checks.due("CELLS", x.count(0), rows * columns);
                Checks.due("rows", x.count(1), rows);
            }
        }
    }

    private static void noneOrTooMany() {
        fault(0, "", "", 0, 1);
        fault(1, "a", "", 0, 1);
        fault(2, "a", "", 0, 1);
        for (int columns = 1; columns <= 12; columns++) {
            fault(0, "", text(0, 9, columns), 8 * columns + 7, 3);
            fault(0, "", text(0, 8, columns) + "/", 8 * columns + 7, 3);
        }
        for (int rows = 1; rows <= 8; rows++) {
            fault(0, "", text(0, rows, 13), 12, 3);
            fault(1, text(0, rows, 12), text(1, rows, 13), 12, 3);
            fault(2, text(0, rows, 12), text(2, rows, 13), 12, 3);
        }
    }

    private static void tooLong() {
        String most = text(0, 8, 12);
        Checks.due("bytes of the longest", most.length(), 103);
        Checks.due("the longest is taken", Checks.layer(new ZoneShares(), 0, most), 96);
        for (int more : new int[] {1, 4, 5, 97}) {
            fault(0, "", most + "a".repeat(more), 103, 3);
            fault(0, "", most + "/".repeat(more), 103, 3);
            fault(0, "", most + " ".repeat(more), 103, 1);
            fault(1, most, text(1, 8, 12) + "a".repeat(more), 103, 3);
            fault(2, most, text(2, 8, 12) + "/".repeat(more), 103, 3);
        }
        fault(0, "", "a".repeat(107), 12, 3);
        fault(0, "", "a".repeat(108), 12, 3);
        fault(0, "", "a".repeat(200), 12, 3);
        fault(0, "", "a/".repeat(100), 15, 3);
    }

    private static void allAlikeLong() {
        Checks.says("I", ", all alike long.");
        for (int columns = 1; columns <= 12; columns++) {
            String row = "c".repeat(columns);
            ZoneShares x = new ZoneShares();
            Checks.due("two ROWS alike", Checks.layer(x, 0, row + "/" + row), 2 * columns);
            fault(0, "", row + "/" + row + "c", 2 * columns + 1, 3);
            fault(0, "", row + "/" + row + "/" + row + "c", 3 * columns + 2, 3);
            if (columns > 1) {
                fault(0, "", row + "/" + row.substring(1), 2 * columns, 2);
                fault(0, "", row + "/" + row + "/" + row.substring(1), 3 * columns + 1, 2);
            }
        }
    }

    private static void lettersOfOld() {
        Checks.says("I", "OLD, NEW: letters a to h, the ZONES 0 to 7, and . (OLD: nobody lives there;");
        for (int zone = 0; zone < 8; zone++) {
            ZoneShares x = Checks.map("" + (char) ('a' + zone), "a", "0");
            Checks.due("the OLD ZONE", x.piece(0, 0), zone);
            Checks.counts(x, 0, (char) ('a' + zone) + "=3");
            Checks.due("who lives there", x.people(0, zone), 3);
        }
        ZoneShares x = Checks.map("a.", "ab", "00");
        Checks.counts(x, 0, "a=3,?=4");
        x.settle(1, 1);
        Checks.due("nobody lives where . stands", x.surface(0, 0, 1, 0), 0);
        Checks.due("nobody comes from there", x.moved(0, -1, 1), 0);
        Checks.due("it is no ZONE", x.count(2), 1);
        Checks.due("it is no PIECE", x.piece(-1, 0), 1);
    }

    private static void lettersOfNew() {
        Checks.says("I", "NEW: OUT);");
        for (int zone = 0; zone < 8; zone++) {
            ZoneShares x = Checks.map("a", "" + (char) ('a' + zone), "0");
            Checks.due("the NEW ZONE", x.piece(0, 1), zone);
        }
        ZoneShares x = Checks.map("a", ".", "0");
        Checks.counts(x, 0, "a=3");
        Checks.due("OUT", x.piece(0, 1), 8);
        Checks.due("who comes OUT", x.moved(0, 0, 8), 3);
        Checks.due("OUT is no NEW ZONE", x.count(3), 0);
    }

    private static void digitsOfLand() {
        Checks.says("I", "LAND: digits 0 to 3.");
        for (int land = 0; land < 4; land++) {
            ZoneShares x = Checks.map("a", "a", "" + land);
            Checks.due("the LAND", x.piece(0, 2), land);
            Checks.due("the sign", x.cell(2, 0, 0), '0' + land);
        }
        fault(2, "a", "4", 0, 1);
        fault(2, "a", ".", 0, 1);
        fault(2, "a", "a", 0, 1);
        fault(2, "aa", "0/", 1, 2);
        fault(0, "", "0", 0, 1);
        fault(1, "a", "0", 0, 1);
    }

    private static void everyByte() {
        Checks.says("I", "1 a byte that cannot stand there, or the text ends (the place behind its last byte);");
        for (int what = 0; what < 3; what++) {
            String good = SIGNS[what].substring(1, 2);
            String old = what == 0 ? "" : "aa";
            for (int b = 0; b < 256; b++) {
                String sign = "" + (char) b;
                boolean stands = SIGNS[what].contains(sign);
                if (stands) {
                    Checks.due("byte " + b + " first", Checks.layer(old(old), what, sign + good), 2);
                    Checks.due("byte " + b + " second", Checks.layer(old(old), what, good + sign), 2);
                } else {
                    fault(what, old, sign + good, 0, 1);
                    fault(what, old, good + sign, b == '/' && what == 0 ? 2 : 1, b == '/' && what > 0 ? 2 : 1);
                }
            }
        }
        // where the text ends ahead of what must stand
        fault(0, "", "a/", 2, 1);
        fault(0, "", "ab/cd/", 6, 1);
        fault(1, "aa/aa", "ab/", 3, 1);
        fault(2, "aa/aa", "00/", 3, 1);
    }

    private static void asLargeAsOld() {
        Checks.says("I", "NEW and LAND are as large as OLD;");
        for (int what = 1; what < 3; what++) {
            String old = text(0, 3, 4);
            Checks.due("as large", Checks.layer(old(old), what, text(what, 3, 4)), 12);
            fault(what, old, text(what, 2, 4), 9, 4);
            fault(what, old, text(what, 4, 4), 14, 3);
            fault(what, old, text(what, 3, 3), 3, 2);
            fault(what, old, text(what, 3, 5), 4, 3);
            fault(what, old, text(what, 4, 3), 3, 2);
            fault(what, old, text(what, 2, 6), 4, 3);
            fault(what, old, text(what, 1, 12), 4, 3);
        }
    }

    private static void toldAnewOtherwiseLarge() {
        Checks.says("I", "if OLD is told anew otherwise large, NEW and LAND are no more.");
        int[][] sizes = {{3, 3}, {3, 5}, {2, 4}, {4, 4}, {4, 3}, {2, 6}, {6, 2}, {1, 12}, {1, 1}, {8, 12}};
        for (int[] size : sizes) {
            ZoneShares x = Checks.map(text(0, 3, 4), text(1, 3, 4), text(2, 3, 4));
            Checks.layer(x, 0, text(0, size[0], size[1]));
            Checks.due("only OLD is told", x.count(7), 1);
            Checks.due("NEW has no CELL", x.cell(1, 0, 0), -1);
            Checks.due("LAND has no CELL", x.cell(2, 0, 0), -1);
            Checks.due("no NEW ZONES", x.count(3), 0);
            Checks.due("no LANDS", x.count(4), 0);
            Checks.due("no whole MAP", x.piece(-1, 0), -1);
            Checks.due("NEW is as large as OLD is now", Checks.layer(x, 1, text(1, size[0], size[1])),
                    size[0] * size[1]);
            x.undo();
            Checks.due("undo()", x.undo(), 3);
            Checks.due("all are told again", x.count(7), 7);
            Checks.due("LAND as it was", x.cell(2, 2, 3), text(2, 3, 4).charAt(13));
        }
        ZoneShares x = Checks.map(text(0, 3, 4), text(1, 3, 4), text(2, 3, 4));
        Checks.layer(x, 0, "abcd/efgh/....");
        Checks.due("as large as it was", x.count(7), 7);
        Checks.due("NEW is as it was", x.cell(1, 2, 3), text(1, 3, 4).charAt(13));
        Checks.layer(x, 0, "abcd/efgh/...");
        Checks.due("with a FAULT, otherwise large", x.count(7), 7);
        Checks.due("OLD is as it was", x.cell(0, 0, 1), 'b');
        ZoneShares y = old("ab");
        Checks.layer(y, 2, "00");
        Checks.layer(y, 0, "abc");
        Checks.due("without NEW", y.count(7), 1);
    }

    private static void wholeMap() {
        Checks.says("I", "The MAP is whole, if all three are told.");
        String[] texts = {"ab", "b.", "01"};
        for (int[] order : new int[][] {{0}, {0, 1}, {0, 2}, {0, 1, 2}, {0, 2, 1}, {0, 1, 0}, {0, 2, 2}}) {
            ZoneShares x = new ZoneShares();
            int bits = 0;
            for (int what : order) {
                Checks.layer(x, what, texts[what]);
                bits |= 1 << what;
            }
            Checks.due("LAYERS", x.count(7), bits);
            Checks.due("PIECES", x.piece(-1, 0), bits == 7 ? 2 : -1);
            Checks.due("MOVED", x.moved(0, -1, -1), bits == 7 ? 0 : -1);
        }
    }

    private static void firstPlace() {
        Checks.says("I", "FAULT of a text that is none: of the first place along it that is wrong (0 the first byte), 8 times the place and:");
        // 2, then 1, 3 and 4
        fault(0, "", "ab/a/ z", 4, 2);
        fault(0, "", "ab/a/abc", 4, 2);
        fault(1, "aa/aa", "a/aaa", 1, 2);
        // 1, then 2 and 3
        fault(0, "", "a b/a", 1, 1);
        fault(0, "", "abc/0/", 4, 1);
        fault(2, "aa/aa", "0a/", 1, 1);
        // 3, then 1 and 2
        fault(0, "", "ab/abc/ /a", 5, 3);
        fault(0, "", "abcdefghabcda/0", 12, 3);
        fault(1, "aa", "aa/0", 2, 3);
        fault(2, "aa", "000 ", 2, 3);
        // the first and the last place that can be wrong
        fault(0, "", "zz", 0, 1);
        fault(0, "", text(0, 8, 12) + "z/", 103, 1);
        fault(0, "", text(0, 8, 12).substring(0, 102), 102, 2);
        fault(0, "", text(0, 8, 12).substring(0, 91), 91, 1);
    }

    private static void cannotStand() {
        Checks.says("I", "1 a byte that cannot stand there");
        String full = text(0, 3, 4);
        for (int place = 0; place <= full.length(); place++) {
            String spoilt = full.substring(0, place) + "i" + full.substring(place);
            fault(0, "", spoilt, place, 1);
            fault(0, "", full.substring(0, place) + (char) 0 + full.substring(place), place, 1);
        }
    }

    private static void aheadOfSoManySigns() {
        Checks.says("I", "2 a / or the text's end ahead of so many signs as the first ROW has (of NEW, LAND: as OLD has);");
        for (int columns = 2; columns <= 12; columns++) {
            for (int filled = 1; filled < columns; filled++) {
                String row = "a".repeat(columns) + "/";
                String part = "b".repeat(filled);
                fault(0, "", row + part, columns + 1 + filled, 2);
                fault(0, "", row + part + "/a", columns + 1 + filled, 2);
                fault(1, "a".repeat(columns), part, filled, 2);
                fault(1, row + "a".repeat(columns), part + "/", filled, 2);
                fault(2, "a".repeat(columns), "3".repeat(filled), filled, 2);
                fault(2, row + "a".repeat(columns), "3".repeat(columns) + "/" + "0".repeat(filled),
                        columns + 1 + filled, 2);
            }
            Checks.due("so many", Checks.layer(new ZoneShares(), 0, "a".repeat(columns) + "/" + "b".repeat(columns)),
                    2 * columns);
        }
        // only OLD's first ROW is free
        Checks.due("one sign", Checks.layer(new ZoneShares(), 0, "a/b"), 2);
    }

    private static void beyondThese() {
        Checks.says("I", "3 a sign beyond these, beyond 12, the / ahead of a ROW too many;");
        for (int columns = 1; columns <= 12; columns++) {
            String row = "a".repeat(columns);
            fault(0, "", row + "/" + row + "a", 2 * columns + 1, 3);
            fault(1, row, row + ".", columns, 3);
            fault(2, row + "/" + row, "1".repeat(columns) + "/" + "1".repeat(columns + 1), 2 * columns + 1, 3);
        }
        Checks.due("twelve signs", Checks.layer(new ZoneShares(), 0, "a".repeat(12)), 12);
        fault(0, "", "a".repeat(13), 12, 3);
        fault(0, "", "a".repeat(12) + ".", 12, 3);
        for (int rows = 1; rows <= 8; rows++) {
            fault(1, text(0, rows, 2), text(1, rows, 2) + "/", 3 * rows - 1, 3);
            fault(2, text(0, rows, 2), text(2, rows, 2) + "/00", 3 * rows - 1, 3);
            if (rows < 8) {
                Checks.due("ROWS of OLD", Checks.layer(new ZoneShares(), 0, text(0, rows + 1, 2)), 2 * rows + 2);
            }
        }
        fault(0, "", text(0, 8, 2) + "/", 23, 3);
        fault(0, "", text(0, 8, 2) + "/ab", 23, 3);
    }

    private static void tooFewRows() {
        Checks.says("I", "4 (NEW, LAND) the text's end, if there are too few ROWS.");
        for (int rows = 2; rows <= 8; rows++) {
            for (int told = 1; told < rows; told++) {
                fault(1, text(0, rows, 3), text(1, told, 3), 4 * told - 1, 4);
                fault(2, text(0, rows, 3), text(2, told, 3), 4 * told - 1, 4);
            }
        }
        ZoneShares x = Checks.map("ab/ab", "ab/ab", "00/00");
        Checks.due("OLD told anew with a ROW less has no FAULT", Checks.layer(x, 0, "ab"), 2);
    }

    private static void leastOfOnePlace() {
        Checks.says("I", "Of one place the least;");
        // 1, not 3: a byte that cannot stand there, where a sign would be beyond the others
        fault(0, "", "ab/ab ", 5, 1);
        fault(0, "", "abcdefghabcd ", 12, 1);
        fault(1, "aa", "aa ", 2, 1);
        fault(2, "aa", "00a", 2, 1);
        // 1, not 2: a byte that cannot stand there, where a / would be too early
        fault(0, "", "ab/a ", 4, 1);
        fault(1, "aa", "a0", 1, 1);
        // 2, not 3: a / that is too early, and the ROW behind it is one too many
        fault(0, "", "aa/aa/aa/aa/aa/aa/aa/a/aa", 22, 2);
        fault(1, "aa", "a/aa", 1, 2);
        fault(2, "aa/aa", "00/0/", 4, 2);
        // 2, not 4: the text ends too early, and there are too few ROWS
        fault(1, "aa/aa", "a", 1, 2);
        fault(2, "aa/aa/aa", "00/0", 4, 2);
        // 1, not 4
        fault(1, "aa/aa/aa", "aa/aa/", 6, 1);
    }

    private static void firstSignOfARow() {
        Checks.says("I", "where a ROW's first sign must stand all else is 1, a / and the text's end, too.");
        fault(0, "", "/", 0, 1);
        fault(0, "", "/a", 0, 1);
        fault(0, "", "", 0, 1);
        fault(0, "", "ab//ab", 3, 1);
        fault(0, "", "ab/", 3, 1);
        fault(0, "", text(0, 7, 3) + "/", 28, 1);
        fault(0, "", text(0, 7, 3) + "//", 28, 1);
        for (int what = 1; what < 3; what++) {
            fault(what, "aa/aa", "", 0, 1);
            fault(what, "aa/aa", "/", 0, 1);
            fault(what, "aa/aa", text(what, 1, 2) + "/", 3, 1);
            fault(what, "aa/aa", text(what, 1, 2) + "//", 3, 1);
            fault(what, "a", "/", 0, 1);
        }
    }

    private static void tellsALayer() {
        Checks.says("4", "The TAPE, which is empty then, tells a LAYER (what 0: OLD, 1: NEW, 2: LAND) in place of what it was: how many CELLS;");
        String[][] texts = {{"ab/.h", "cc/cc"}, {"ha/.b", "../.."}, {"01/23", "33/33"}};
        ZoneShares x = Checks.map(texts[0][0], texts[1][0], texts[2][0]);
        for (int what = 0; what < 3; what++) {
            Checks.due("the TAPE is told", Checks.tell(x, texts[what][1]), 5);
            Checks.due("how many CELLS", x.layer(what), 4);
            Checks.due("the TAPE is empty", x.count(9), 0);
            Checks.due("an empty TAPE tells none", x.layer(what), -3);
            Checks.due("a sign of it", x.cell(what, 1, 1), texts[what][1].charAt(4));
            for (int other = what + 1; other < 3; other++) {
                Checks.due("the others stay", x.cell(other, 1, 1), texts[other][0].charAt(4));
            }
        }
        Checks.due("one CELL", Checks.layer(new ZoneShares(), 0, "h"), 1);
    }

    private static void faultLeaves() {
        Checks.says("4", "-2 - its FAULT, and but for the TAPE nothing happens;");
        String[][] texts = {{"", "abc/abcd", "abc/ab", "i", "a".repeat(13), "a/a/a/a/a/a/a/a/a", "ab/ab/"},
            {"", "aba", "aba/aba/", "aba/ab", "0"}, {"", "012", "012/0120", "012/01", "012/01a"}};
        int[][] faults = {{1, 59, 50, 1, 99, 123, 49}, {1, 28, 59, 50, 1}, {1, 28, 59, 50, 49}};
        for (int what = 0; what < 3; what++) {
            for (int k = 0; k < texts[what].length; k++) {
                String text = texts[what][k];
                int layer = what;
                Looks.leavesButTape("layer(" + what + ") of " + text, () -> Looks.told(text), x -> x.layer(layer),
                        -2 - faults[what][k]);
            }
        }
        Looks.leavesButTape("of a new object", () -> {
            ZoneShares x = new ZoneShares();
            Checks.tell(x, "ab/a");
            return x;
        }, x -> x.layer(0), -2 - 34);
    }

    private static void refusedLeaves() {
        Checks.says("4", "NONE, and nothing happens (the TAPE stays), for another what, or for NEW, LAND without OLD.");
        for (int what : new int[] {-1, 3, 4, 256, Integer.MIN_VALUE, Integer.MAX_VALUE}) {
            Looks.leaves("layer(" + what + ")", () -> Looks.told("ccc/ccc"), x -> x.layer(what), -1);
        }
        for (int what = 1; what < 3; what++) {
            int layer = what;
            Looks.leaves("layer(" + what + ") of a new object", () -> {
                ZoneShares x = new ZoneShares();
                Checks.tell(x, layer == 1 ? "a" : "0");
                return x;
            }, x -> x.layer(layer), -1);
            Looks.leaves("layer(" + what + ") behind OLD that is undone", () -> {
                ZoneShares x = old("a");
                x.undo();
                Checks.tell(x, layer == 1 ? "a" : "0");
                return x;
            }, x -> x.layer(layer), -1);
        }
    }

    private static void cellAsTold() {
        Checks.says("12", "The sign of a CELL in a LAYER (0 to 2), as told (a byte);");
        ZoneShares x = new ZoneShares();
        for (int what = 0; what < 3; what++) {
            String text = text(what, 8, 12);
            Checks.layer(x, what, text);
            for (int cell = 0; cell < 96; cell++) {
                int row = cell / 12;
                int column = cell % 12;
                Checks.due("cell(" + what + ", " + row + ", " + column + ")", x.cell(what, row, column),
                        text.charAt(13 * row + column));
            }
        }
        // each sign of each LAYER
        for (int what = 0; what < 3; what++) {
            ZoneShares y = old(".........");
            String signs = what == 2 ? "012301230" : ".abcdefgh";
            Checks.layer(y, what, signs);
            for (int column = 0; column < 9; column++) {
                Checks.due("the sign", y.cell(what, 0, column), signs.charAt(column));
            }
        }
    }

    private static void cellWithoutThese() {
        Checks.says("12", "NONE without these.");
        ZoneShares x = new ZoneShares();
        for (int told = 0; told < 4; told++) {
            for (int layer = -2; layer <= 4; layer++) {
                boolean there = layer >= 0 && layer < told;
                for (int row = -1; row <= 2; row++) {
                    for (int column = -1; column <= 3; column++) {
                        boolean inside = there && row >= 0 && row < 2 && column >= 0 && column < 3;
                        Checks.due("cell(" + layer + ", " + row + ", " + column + ") with " + told,
                                (x.cell(layer, row, column) == -1) != inside);
                    }
                }
            }
            if (told < 3) {
                Checks.layer(x, told, text(told, 2, 3));
            }
        }
        for (int far : new int[] {256, 1 << 16, Integer.MIN_VALUE, Integer.MAX_VALUE}) {
            Checks.due("a LAYER far off", x.cell(far, 0, 0), -1);
            Checks.due("a row far off", x.cell(0, far, 0), -1);
            Checks.due("a column far off", x.cell(0, 0, far), -1);
        }
        // a CELL of the row behind is none of this row
        Checks.due("cell(0, 0, 3)", x.cell(0, 0, 3), -1);
        Checks.due("cell(0, 1, -1)", x.cell(0, 1, -1), -1);
    }
}
