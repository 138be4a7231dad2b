/** Promises 1 to 3: a new object and its tape. */
public final class TapeTest {
    public static void main(String[] args) {
        aNewObject();
        feeding();
        ending();
        Checks.finish("TapeTest");
    }

    private static void aNewObject() {
        ZoneShares x = new ZoneShares();
        for (int what = 0; what <= 11; what++) {
            Checks.due("new: count(" + what + ")", x.count(what), 0);
        }
        for (int group = 0; group < 3; group++) {
            for (int what = 0; what <= 10; what++) {
                Checks.due("new: people(" + group + ", " + what + ")", x.people(group, what), 0);
            }
            for (int land = 0; land < 4; land++) {
                Checks.due("new: weight", x.weight(group, land), 1);
            }
        }
        for (int zone = 0; zone < 8; zone++) {
            Checks.due("new: districtOf", x.districtOf(zone), 0);
        }
        Checks.due("new: undo()", x.undo(), -1);
        Checks.due("new: apart(0)", x.apart(0), -1);
    }

    private static void feeding() {
        ZoneShares x = new ZoneShares();
        Checks.due("feed", x.feed(0x612F622F, 0x632F642F, 0x652F662F, 0x672F6800, -1), 20);
        Checks.due("end(15)", x.end(15), 15);
        Checks.due("layer(0)", x.layer(0), 8);
        for (int row = 0; row < 8; row++) {
            Checks.due("the highest byte first", x.cell(0, row, 0), 'a' + row);
        }
        for (int k = 1; k <= 10; k++) {
            Checks.due("feed " + k, x.feed(-1, 0x80818283, 0, 1, 2), 20 * k);
        }
        Checks.due("feed beyond 200", x.feed(0, 0, 0, 0, 0), -1);
        Checks.due("count(9)", x.count(9), 200);
        Checks.due("end(181)", x.end(181), 181);
        Checks.due("feed beyond 200", x.feed(0, 0, 0, 0, 0), -1);
        Checks.due("count(9)", x.count(9), 181);
        Checks.due("end(180)", x.end(180), 180);
        Checks.due("feed to 200", x.feed(0, 0, 0, 0, 0), 200);
        Checks.due("layer(0): a byte of 255 is none of a text", x.layer(0), -3);
    }

    private static void ending() {
        ZoneShares x = new ZoneShares();
        Checks.due("end(0) of nothing", x.end(0), 0);
        Checks.due("end(1) of nothing", x.end(1), -1);
        x.feed(0x61626364, 0, 0, 0, 0);
        Checks.due("end(21)", x.end(21), -1);
        Checks.due("end(-1)", x.end(-1), -1);
        Checks.due("end(least)", x.end(Integer.MIN_VALUE), -1);
        Checks.due("end(most)", x.end(Integer.MAX_VALUE), -1);
        Checks.due("count(9)", x.count(9), 20);
        Checks.due("end(20)", x.end(20), 20);
        Checks.due("end(2)", x.end(2), 2);
        Checks.due("feed behind what is there", x.feed(0x65666768, 0, 0, 0, 0), 22);
        Checks.due("end(6)", x.end(6), 6);
        Checks.due("layer(0)", x.layer(0), 6);
        Checks.due("cell(0, 0, 1)", x.cell(0, 0, 1), 'b');
        Checks.due("cell(0, 0, 2)", x.cell(0, 0, 2), 'e');
        Checks.due("the tape is no act", x.count(8), 1);
    }
}
