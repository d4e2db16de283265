import java.nio.charset.StandardCharsets;
import java.util.ArrayList;
import java.util.List;

/** Objects for tests to begin with, and all that can be asked of one. */
final class Given {
    /** What busy() has: one berth and one boat less than there may be. */
    static final int BUSY_BERTHS = 3;
    static final int BUSY_BOATS = 7;

    private Given() {
    }

    /** Deep berths of six places, all in reach, and like boats without power that lie nowhere. */
    static AbreastQuay wide(int berths, int boats) {
        AbreastQuay x = new AbreastQuay();
        for (int i = 0; i < berths; i++) {
            Check.due("berth of a wide quay", x.berth(90, 0, 6, 6), i);
        }
        for (int i = 0; i < boats; i++) {
            Check.due("boat of a wide quay", x.boat(0, 10, 10, false), i);
        }
        return x;
    }

    /** A wide quay whose berth 0 has the first so many boats in a row, as they are numbered. */
    static AbreastQuay row(int lying, int boats) {
        AbreastQuay x = wide(1, boats);
        for (int i = 0; i < lying; i++) {
            Check.due("comes to a row", x.comes(i, 0), i);
        }
        return x;
    }

    static void feedText(AbreastQuay x, String text) {
        byte[] bytes = text.getBytes(StandardCharsets.ISO_8859_1);
        int before = x.told(5);
        int fed = 0;
        while (fed < bytes.length) {
            int n = Math.min(8, bytes.length - fed);
            long w = 0;
            for (int i = n - 1; i >= 0; i--) {
                w = w << 8 | bytes[fed + i] & 0xFF;
            }
            fed += n;
            Check.due("feed of " + text, x.feed(w, n), before + fed);
        }
    }

    /** Dues are read from a text of so many rows. */
    static void takeText(AbreastQuay x, String text, int rows) {
        feedText(x, text);
        Check.due("text " + text, x.text(), rows);
    }

    /**
     * An object in the midst of things, none of them as at first, with room for one more of each. Berth 0 is
     * full: 1, 0, 2; at berth 1 lie 5 (not right, it is too deep) and 3; berth 2 is empty; 4 and 6 lie nowhere.
     */
    static AbreastQuay busy() {
        AbreastQuay x = new AbreastQuay();
        int[] berths = {x.berth(50, 2, 3, 2), x.berth(30, 5, 6, 6), x.berth(90, 0, 1, 0)};
        int[] boats = {
            x.boat(0, 10, 20, false), x.boat(0, 12, 40, true), x.boat(1, 8, 20, false), x.boat(2, 14, 20, false),
            x.boat(3, 20, 20, false), x.boat(3, 9, 35, true), x.boat(0, 30, 91, false),
        };
        Check.due("berths", berths.length, BUSY_BERTHS);
        Check.due("boats", boats.length, BUSY_BOATS);
        Check.due("over", x.over(3), 0);
        Check.due("berth 0", x.comes(1, 0) * 100 + x.comes(0, 0) * 10 + x.comes(2, 0), 12);
        Check.due("berth 1", x.comes(4, 1) * 100 + x.comes(5, 1) * 10 + x.comes(3, 1), 12);
        Check.due("4 goes", x.goes(4), 2);
        int[][] hours = {{5, 9}, {4, 4}, {6, 8}, {2, 20}, {7, 21}, {3, 7}, {1, 22}};
        for (int i = 0; i < hours.length; i++) {
            Check.due("leaves", x.leaves(i, hours[i][0], hours[i][1]), 1);
        }
        Check.due("aboard", x.aboard(2, 0) + x.aboard(5, 0x0F000A), 2 * 0xFFFFFF);
        Check.due("tide", x.tide(0x00FF00), 0xFFFFFF);
        Check.due("hours 0 to 3", x.run(4), 0);
        takeText(x, "r40:02;l40:03;c20:09;b40:05;", 4);
        feedText(x, "b40:07;c10:08;");
        writeSheet(x, 0, 8, new int[] {6, 4, 100, -3});
        writeSheet(x, 1, 16, new int[] {1000, -2, 4});
        writeSheet(x, 2, 32, new int[] {Integer.MIN_VALUE, Integer.MAX_VALUE, 3, 2, 1, 0, -1, 6});
        Check.due("a finding", x.told(8), -1000001);
        return x;
    }

    /** An object with no room left: in its berths' and boats' rows, at both berths where boats lie, on the tape, in the dues. */
    static AbreastQuay crammed() {
        AbreastQuay x = new AbreastQuay();
        Check.due("berth", x.berth(60, 1, 6, 6), 0);
        Check.due("berth", x.berth(40, 0, 1, 0), 1);
        Check.due("berth", x.berth(5, 9, 2, 1), 2);
        Check.due("berth", x.berth(90, 9, 6, 6), 3);
        for (int i = 0; i < 8; i++) {
            Check.due("boat", x.boat(0, 20 - i, 10 + 4 * i, i == 7), i);
        }
        for (int i = 0; i < 6; i++) {
            Check.due("berth 0", x.comes(i, 0), i);
        }
        Check.due("berth 1", x.comes(6, 1), 0);
        takeText(x, "b40:01;c40:02;l40:03;r40:04;b40:05;c40:06;l40:07;r40:08;", 8);
        feedText(x, "b19:11;b18:12;b17:13;b16:14;b15:15;b14:16;b13:17;b20:18;" + "b40:01;b40:02;b40:03;b4");
        feedText(x, "0");
        for (int s = 0; s < 4; s++) {
            writeSheet(x, s, s == 3 ? 32 : 8 << s, new int[] {7, 1, 2, 3, 4, 5, 6, -7});
        }
        return x;
    }

    private static void writeSheet(AbreastQuay x, int s, int bits, int[] numbers) {
        Check.due("sheet", x.sheet(s, bits, numbers.length), numbers.length);
        for (int i = 0; i < numbers.length; i++) {
            Check.due("write", x.write(s, i, numbers[i]), 0);
        }
    }

    /** Answers to all that can be asked, but for told(7). The object is used up by it: some 270 calls. */
    static List<Integer> everythingOf(AbreastQuay x) {
        List<Integer> all = new ArrayList<>();
        for (int what = 0; what < 7; what++) {
            all.add(x.told(what));
        }
        addBoats(all, x);
        addBerths(all, x);
        addWhoMayLie(all, x);
        addSheets(all, x);
        addDues(all, x);
        all.add(x.text());
        all.add(x.told(4));
        addDues(all, x);
        all.add(x.over(20));
        all.add(x.tide(0));
        all.add(x.lay(0));
        addWhoMayLie(all, x);
        return all;
    }

    private static void addBoats(List<Integer> all, AbreastQuay x) {
        for (int boat = 0; boat < 8; boat++) {
            for (int what = 0; what < 11; what++) {
                all.add(x.of(boat, what));
            }
            all.add(x.could(boat));
        }
    }

    private static void addBerths(List<Integer> all, AbreastQuay x) {
        for (int berth = 0; berth < 4; berth++) {
            for (int place = 0; place < 6; place++) {
                all.add(x.at(berth, place));
            }
            all.add(x.fault(berth));
            all.add(x.pairs(berth, false));
            all.add(x.pairs(berth, true));
        }
    }

    private static void addWhoMayLie(List<Integer> all, AbreastQuay x) {
        for (int boat = 0; boat < 8; boat++) {
            for (int berth = 0; berth < 4; berth++) {
                all.add(x.may(boat, berth));
            }
        }
    }

    private static void addDues(List<Integer> all, AbreastQuay x) {
        for (int boat = 0; boat < 8; boat++) {
            all.add(x.due(boat, 1));
        }
    }

    /** The numbers of a sheet, how many there are, and by what is left of a wide one how many bits they have. */
    private static void addSheets(List<Integer> all, AbreastQuay x) {
        for (int s = 0; s < 4; s++) {
            for (int i = 0; i < 8; i++) {
                all.add(x.write(s, i, 0x12348765));
            }
            all.add(x.write(s, 0, 0));
        }
    }
}
