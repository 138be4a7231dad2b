/** How a MAP and COUNTS are told and asked for: README.md shows this program and what it prints. */
public final class Example {
    public static void main(String[] args) {
        ZoneShares x = new ZoneShares();

        // the MAP: OLD, then NEW and LAND, as large as OLD
        tell(x, "aab/abb");
        show("layer(0), CELLS of OLD", x.layer(0));
        tell(x, "aba/cb.");
        show("layer(1), CELLS of NEW", x.layer(1));
        tell(x, "012/001");
        show("layer(2), CELLS of LAND", x.layer(2));

        // COUNTS of GROUP 0: of five people the ZONE is not known
        tell(x, "a=10,b=7,?=5");
        show("counts(0), people told", x.counts(0));

        // a wrong text changes nothing; in this one a comes again at place 9
        tell(x, "a=10,b=7,a=5");
        show("counts(0), -2 - FAULT, which is 8 * 9 + 3", x.counts(0));

        // what was told is asked for
        show("cell(0, 0, 2), the sign of OLD there", x.cell(0, 0, 2));
        show("count(7), LAYERS that are told, as bits", x.count(7));
        show("piece(NONE, 0), how many PIECES", x.piece(ZoneShares.NONE, 0));
        show("piece(5, 3), CELLS of the last one", x.piece(5, 3));
        show("people(0, 0), PEOPLE of OLD ZONE a", x.people(0, 0));
        show("people(0, 9), left ASIDE", x.people(0, 9));

        // people are MOVED
        show("moved(0, 0, 0), from a to the new a", x.moved(0, 0, 0));
        show("moved(0, NONE, 0), from all to it", x.moved(0, ZoneShares.NONE, 0));
        show("moved(0, NONE, 8), OUT", x.moved(0, ZoneShares.NONE, 8));
        show("exact(0, 0, 0), to the new a exactly, whole people", x.exact(0, 0, 0));
        show("exact(0, 0, 1), and so many", x.exact(0, 0, 1));
        show("exact(0, 0, 2), of so many parts of one", x.exact(0, 0, 2));

        // other WEIGHTS, another ROUNDING; and back
        show("weigh(0, 1, 0), LAND 1 counts no more; it was", x.weigh(0, 1, 0));
        show("moved(0, NONE, 1)", x.moved(0, ZoneShares.NONE, 1));
        show("undo(), ACTS that can still be UNDONE", x.undo());
        show("moved(0, NONE, 1)", x.moved(0, ZoneShares.NONE, 1));
        show("settle(0, 1), BALANCED; it was", x.settle(0, 1));
        show("moved(0, NONE, 0)", x.moved(0, ZoneShares.NONE, 0));

        // the new ZONES become the old ones
        show("adopt(), people in ZONES", x.adopt());
        show("people(0, 8), UNKNOWN, with those who fell OUT", x.people(0, 8));
    }

    /** Puts a text on the TAPE alone: four bytes a number, five numbers a call. */
    private static void tell(ZoneShares x, String text) {
        x.end(0);
        for (int from = 0; from < text.length(); from += 20) {
            int[] n = new int[5];
            for (int k = 0; k < 20; k++) {
                int sign = from + k < text.length() ? text.charAt(from + k) : 0;
                n[k / 4] = n[k / 4] << 8 | sign;
            }
            x.feed(n[0], n[1], n[2], n[3], n[4]);
        }
        x.end(text.length());
    }

    private static void show(String call, long answer) {
        System.out.println(call + ": " + answer);
    }
}
