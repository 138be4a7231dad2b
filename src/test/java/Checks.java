/** What all tests share: telling a wrong answer, and putting a text on the tape. */
final class Checks {
    private static int asked = 0;
    private static int wrong = 0;
    private static String sentence = "";

    private Checks() {
    }

    /**
     * Names the words that the answers from here on are due by, as the document has them in
     * its Terms I or II or in a promise: SentencesTest holds these against the document.
     */
    static void says(String section, String words) {
        sentence = " [" + section + ": " + words + "]";
    }

    static void due(String call, long got, long want) {
        asked++;
        if (got != want) {
            wrong++;
            System.out.println(call + " answered " + got + ", due is " + want + sentence);
        }
    }

    static void due(String call, boolean holds) {
        due(call, holds ? 1 : 0, 1);
    }

    /** Puts a text on the tape, behind what is there: what end() answers. */
    static int tell(ZoneShares x, String text) {
        int before = x.count(9);
        for (int at = 0; at < text.length(); at += 20) {
            int[] n = new int[5];
            for (int k = 0; k < 20; k++) {
                int sign = at + k < text.length() ? text.charAt(at + k) & 255 : 0;
                n[k / 4] = n[k / 4] << 8 | sign;
            }
            if (x.feed(n[0], n[1], n[2], n[3], n[4]) == ZoneShares.NONE) {
                return ZoneShares.NONE;
            }
        }
        return x.end(before + text.length());
    }

    static int layer(ZoneShares x, int what, String text) {
        tell(x, text);
        return x.layer(what);
    }

    static int counts(ZoneShares x, int group, String text) {
        tell(x, text);
        return x.counts(group);
    }

    /** A new object with a whole map. */
    static ZoneShares map(String old, String fresh, String land) {
        ZoneShares x = new ZoneShares();
        int cells = layer(x, 0, old);
        due("layer(0) of " + old, cells > 0);
        due("layer(1) of " + fresh, layer(x, 1, fresh), cells);
        due("layer(2) of " + land, layer(x, 2, land), cells);
        return x;
    }

    static void finish(String name) {
        System.out.println(name + ": " + asked + " answers, " + wrong + " wrong");
        if (wrong > 0) {
            System.exit(1);
        }
    }
}
