/** Each sentence of promises 1 to 3. */
public final class TapeEdgesTest {
    public static void main(String[] args) {
        noMap();
        nobody();
        twentyBytes();
        everyByteOfANumber();
        howManyItHas();
        noMoreThanTwoHundred();
        firstBytesAlone();
        hasNotSoMany();
        Checks.finish("TapeEdgesTest");
    }

    private static void noMap() {
        Checks.says("1", "No MAP,");
        ZoneShares x = new ZoneShares();
        for (int layer = 0; layer < 3; layer++) {
            Checks.due("cell", x.cell(layer, 0, 0), -1);
        }
        for (int what = 0; what < 4; what++) {
            Checks.due("piece(-1, " + what + ")", x.piece(-1, what), -1);
            Checks.due("apart(" + what + ")", x.apart(what), -1);
            Checks.due("dense(0, 0, " + what + ")", x.dense(0, 0, what), Long.MIN_VALUE);
        }
        int[] none = {x.layer(1), x.layer(2), x.fit(0), x.adopt(), x.undo(), x.share(0, 0, 0, 0), x.moved(0, 0, 0),
            x.moved(0, -1, -1), x.coarse(0, 0, 0), x.coarse(0, 0, 1), x.byWay(0, 0), x.returned(0, 0), x.astray(0),
            x.densest(0, 0)};
        for (int answer : none) {
            Checks.due("without a MAP", answer, -1);
        }
        Checks.due("exact(0, 0, 0)", x.exact(0, 0, 0), -1);
        Checks.due("misfit(0, 0)", x.misfit(0, 0), -1);
        Checks.due("surface(0, 0, 0, 0)", x.surface(0, 0, 0, 0), -1);
        Checks.due("off(0)", x.off(0), Long.MIN_VALUE);
        for (int what = 0; what < 12; what++) {
            Checks.due("count(" + what + ")", x.count(what), 0);
        }
        Checks.due("an object has a state of its own", Checks.layer(new ZoneShares(), 0, "a"), 1);
        Checks.due("an object has a state of its own", x.count(7), 0);
    }

    private static void nobody() {
        Checks.says("1", "nobody.");
        ZoneShares x = new ZoneShares();
        for (int group = 0; group < 3; group++) {
            for (int what = 0; what <= 10; what++) {
                Checks.due("people(" + group + ", " + what + ")", x.people(group, what), 0);
            }
        }
        for (int layer = 0; layer < 3; layer++) {
            Checks.layer(x, layer, layer < 2 ? "ab." : "012");
        }
        for (int group = 0; group < 3; group++) {
            Checks.due("nobody is moved", x.moved(group, -1, -1), 0);
            Checks.due("nobody lives there", x.fit(group), -1);
        }
    }

    private static void twentyBytes() {
        Checks.says("2", "Twenty bytes come behind the TAPE, of each number the highest first:");
        // seven ROWS of two signs and the / between: twenty bytes, all of them seen
        String text = "ab/cd/ef/gh/.a/bc/de";
        int[] n = {0x61622F63, 0x642F6566, 0x2F67682F, 0x2E612F62, 0x632F6465};
        ZoneShares x = new ZoneShares();
        Checks.due("feed", x.feed(n[0], n[1], n[2], n[3], n[4]), 20);
        Checks.due("layer(0)", x.layer(0), 14);
        for (int row = 0; row < 7; row++) {
            Checks.due("the first", x.cell(0, row, 0), text.charAt(3 * row));
            Checks.due("the second", x.cell(0, row, 1), text.charAt(3 * row + 1));
        }
        // behind the TAPE: twenty more, the last three of them end the eighth ROW
        x.feed(0x2F2F2F2F, 0, 0, 0, 0);
        x.end(0);
        x.feed(n[0], n[1], n[2], n[3], n[4]);
        Checks.due("feed", x.feed(0x2F666700, 0, 0, 0, 0), 40);
        x.end(23);
        Checks.due("layer(0)", x.layer(0), 16);
        Checks.due("the eighth ROW", x.cell(0, 7, 0), 'f');
        Checks.due("the eighth ROW", x.cell(0, 7, 1), 'g');
        // behind a part of them
        x.feed(n[0], n[1], n[2], n[3], n[4]);
        x.end(4);
        Checks.due("feed", x.feed(0x682F2E67, 0, 0, 0, 0), 24);
        x.end(8);
        Checks.due("layer(0) of ab/ch/.g", x.layer(0), 6);
        Checks.due("cell(0, 1, 1)", x.cell(0, 1, 1), 'h');
        Checks.due("cell(0, 2, 0)", x.cell(0, 2, 0), '.');
    }

    private static void everyByteOfANumber() {
        // a byte is 0 to 255 wherever it stands, below 0 or not: one that is no sign is a FAULT there
        for (int place = 0; place < 20; place++) {
            for (int b : new int[] {0, 127, 128, 255}) {
                int[] n = {0x61616161, 0x61616161, 0x6161612F, 0x61616161, 0x61616161};
                if (place == 11) {
                    n[2] = 0x61616161;
                }
                int shift = 24 - 8 * (place % 4);
                n[place / 4] = n[place / 4] & ~(255 << shift) | b << shift;
                ZoneShares x = new ZoneShares();
                x.feed(n[0], n[1], n[2], n[3], n[4]);
                Checks.due("byte " + b + " at " + place, x.layer(0), -2 - (8 * place + 1));
            }
        }
        ZoneShares x = new ZoneShares();
        x.feed(0x61616161, 0x61616161, 0x6161612F, 0x61616161, 0x61616161);
        Checks.due("without it", x.layer(0), -2 - (8 * 20 + 2));
    }

    private static void howManyItHas() {
        Checks.says("2", "how many it has;");
        ZoneShares x = new ZoneShares();
        for (int k = 1; k <= 10; k++) {
            Checks.due("feed " + k, x.feed(k, -k, 0, Integer.MIN_VALUE, Integer.MAX_VALUE), 20 * k);
            Checks.due("count(9)", x.count(9), 20 * k);
        }
        x.end(3);
        Checks.due("feed behind three", x.feed(0, 0, 0, 0, 0), 23);
    }

    private static ZoneShares tape(int bytes, String first) {
        ZoneShares x = new ZoneShares();
        Checks.tell(x, first + "/".repeat(bytes - first.length()));
        Checks.due("bytes of the TAPE", x.count(9), bytes);
        return x;
    }

    private static void noMoreThanTwoHundred() {
        Checks.says("2", "NONE, and none comes, if it would have more than 200.");
        for (int bytes = 170; bytes <= 200; bytes++) {
            int length = bytes;
            ZoneShares x = tape(length, "abc");
            Checks.due("feed behind " + bytes, x.feed(1, 2, 3, 4, 5), bytes <= 180 ? bytes + 20 : -1);
            Checks.due("count(9)", x.count(9), bytes <= 180 ? bytes + 20 : bytes);
            if (bytes > 180) {
                Looks.leaves("feed behind " + bytes, () -> tape(length, "a=7,?=8"), y -> y.feed(-1, -1, -1, -1, -1), -1);
                Looks.leaves("feed behind " + bytes, () -> tape(length, "abc"), y -> y.feed(0, 0, 0, 0, 0), -1);
            }
        }
        // the bytes that were refused are not there later on
        ZoneShares x = tape(181, "ab/");
        x.feed(0x61616161, 0, 0, 0, 0);
        x.end(180);
        Checks.due("feed", x.feed(0, 0, 0, 0, 0), 200);
        Checks.due("the first place that is wrong", x.layer(0), -2 - (8 * 3 + 1));
    }

    private static void firstBytesAlone() {
        Checks.says("3", "The TAPE has its first n bytes alone: n;");
        String text = "abc/def/gh.";
        for (int n = 0; n <= 11; n++) {
            ZoneShares x = new ZoneShares();
            Checks.tell(x, text);
            Checks.due("end(" + n + ")", x.end(n), n);
            Checks.due("count(9)", x.count(9), n);
            int due = n == 0 ? -3 : n <= 3 ? n : n == 4 || n == 8 ? -2 - (8 * n + 1) : n == 7 ? 6 : n == 11 ? 9
                    : -2 - (8 * n + 2);
            Checks.due("layer(0) of " + n, x.layer(0), due);
        }
        // the bytes that were cut off are gone
        ZoneShares x = new ZoneShares();
        Checks.tell(x, "abcdef");
        x.end(2);
        Checks.tell(x, "h");
        Checks.due("layer(0) of abh", x.layer(0), 3);
        Checks.due("cell(0, 0, 2)", x.cell(0, 0, 2), 'h');
        for (int n = 200; n >= 0; n -= 25) {
            ZoneShares y = tape(200, "a");
            Checks.due("end(" + n + ") of 200", y.end(n), n);
            Checks.due("once more", y.end(n), n);
        }
    }

    private static void hasNotSoMany() {
        Checks.says("3", "NONE, and nothing happens, if it has not so many, or n is below 0.");
        for (int length : new int[] {0, 1, 3, 20, 199, 200}) {
            String first = length < 3 ? "" : "abc";
            Checks.due("end(" + length + ")", tape(length, first).end(length), length);
            for (int n : new int[] {length + 1, length + 2, 201, 256, Integer.MAX_VALUE, -1, -2, -length - 1,
                Integer.MIN_VALUE}) {
                Looks.leaves("end(" + n + ") of " + length, () -> tape(length, first), x -> x.end(n), -1);
            }
        }
        Looks.leaves("end(4)", Looks::told, x -> x.end(4), -1);
        Looks.leaves("end(3)", Looks::told, x -> x.end(3), 3);
        Looks.same("end(2)", Looks::told, x -> x.end(2), 2, x -> {
            x.end(0);
            Checks.tell(x, "h=");
        });
    }
}
