/** Boundary cases of promises 23 to 25: dues. */
public final class DuesEdgeTest extends Edges {
    private static final String ROW = "b40:07;";

    public static void main(String[] args) {
        runAll(DuesEdgeTest.class);
    }

    /** A tape of so many bytes, none of which can begin a text. */
    private static AbreastQuay tapeOf(int bytes) {
        AbreastQuay x = new AbreastQuay();
        Given.feedText(x, "?".repeat(bytes));
        due("bytes of the tape", x.told(5), bytes);
        return x;
    }

    private static int textOf(String text) {
        AbreastQuay x = new AbreastQuay();
        Given.feedText(x, text);
        return x.text();
    }

    // ---- promise 23: feed

    static void promise23From1To8Bytes() {
        for (int n = 1; n <= 8; n++) {
            AbreastQuay x = new AbreastQuay();
            due("feed(.., " + n + ")", x.feed(0, n), n);
            due("bytes of the tape", x.told(5), n);
            due("once more", x.feed(-1L, n), 2 * n);
        }
        for (int n : outside(1, 8)) {
            refuses(BEYOND, NEW, "feed(0, " + n + ")", x -> x.feed(0, n));
            refuses(BEYOND, BUSY, "feed(.., " + n + ")", x -> x.feed(Long.MAX_VALUE, n));
        }
    }

    static void promise23AtMost80() {
        for (int n = 1; n <= 8; n++) {
            int more = n;
            due("up to 80, by " + n, tapeOf(80 - n).feed(0, n), 80);
            refuses(FULL, () -> tapeOf(81 - more), "one above 80, by " + n, x -> x.feed(0, more));
            refuses(FULL, () -> tapeOf(80), "none fits, by " + n, x -> x.feed(0, more));
            due("one below 80, by " + n, tapeOf(79 - n).feed(0, n), 79);
        }
    }

    static void promise23BeyondBeforeFull() {
        for (int n : outside(1, 8)) {
            refuses(BEYOND, CRAMMED, "feed(0, " + n + ")", x -> x.feed(0, n));
            refuses(BEYOND, () -> tapeOf(79), "feed(0, " + n + ")", x -> x.feed(0, n));
        }
    }

    static void promise23ARefusedFeedBringsNoByte() {
        AbreastQuay x = Given.wide(0, 1);
        Given.feedText(x, ROW.repeat(8));
        Given.feedText(x, "?".repeat(24));
        due("the tape is full", x.feed('x', 1), FULL);
        due("the byte behind eight rows is the first wrong one", x.text(), WRONG - 56);
        AbreastQuay y = Given.wide(0, 1);
        Given.feedText(y, ROW);
        due("none", y.feed('x', 0), BEYOND);
        due("nine", y.feed('x', 9), BEYOND);
        due("the row is right", y.text(), 1);
    }

    static void promise23TheLowestBytesTheLowestFirst() {
        long eight = 0;
        String text = ROW + "c";
        for (int i = 7; i >= 0; i--) {
            eight = eight << 8 | text.charAt(i);
        }
        for (int n = 1; n <= 8; n++) {
            AbreastQuay x = new AbreastQuay();
            due("the " + n + " lowest", x.feed(eight, n), n);
            due("cut behind " + n, x.text(), n == 7 ? 1 : WRONG - n);
        }
        AbreastQuay y = Given.wide(0, 1);
        due("the seven lowest, whatever is above", y.feed(eight | 0xFFL << 56, 7), 7);
        due("a row", y.text(), 1);
        due("its PRICE", y.due(0, 1), 70);
    }

    static void promise23TheEndsOfLong() {
        due("eight bytes of 255", firstWrongOf(-1L, 8), WRONG);
        due("bytes of 0, the highest is 128", firstWrongOf(Long.MIN_VALUE, 8), WRONG);
        due("bytes of 255, the highest is 127", firstWrongOf(Long.MAX_VALUE, 8), WRONG);
        due("the lowest byte alone: b", firstWrongOf(Long.MIN_VALUE | 'b', 1), WRONG - 1);
        due("b, then 0", firstWrongOf(Long.MIN_VALUE | 'b', 2), WRONG - 1);
        due("the highest byte is taken, too", highestByteOf("b40:07;", 'l'), WRONG - 8);
        due("the highest byte is taken, too", highestByteOf("b40:07;", 0x80), WRONG - 7);
        due("the highest byte is taken, too", highestByteOf("b40:07;", 0xE2), WRONG - 7);
    }

    private static int firstWrongOf(long w, int n) {
        AbreastQuay x = new AbreastQuay();
        due("feed", x.feed(w, n), n);
        return x.text();
    }

    private static int highestByteOf(String seven, int last) {
        long w = last;
        for (int i = 6; i >= 0; i--) {
            w = w << 8 | seven.charAt(i);
        }
        return firstWrongOf(w, 8);
    }

    // ---- promise 24: text

    static void promise24NoneTo8Rows() {
        for (int rows = 0; rows <= 8; rows++) {
            AbreastQuay x = Given.wide(0, 1);
            Given.takeText(x, "c40:01;", 1);
            Given.feedText(x, ROW.repeat(rows));
            due(rows + " rows", x.text(), rows);
            due("rows of DUES", x.told(4), rows);
            due("the tape is empty", x.told(5), 0);
            due("due by them", x.due(0, 1), rows == 0 ? NONE : 70);
        }
    }

    static void promise24ANinthLetter() {
        String eight = ROW.repeat(8);
        for (char letter : new char[] {'b', 'c', 'l', 'r', 'x', ';', '0'}) {
            due("a ninth " + letter, textOf(eight + letter), WRONG - 56);
        }
        due("a whole ninth row", textOf(eight + ROW), WRONG - 56);
        due("as far as the tape goes", textOf((eight + ROW.repeat(4)).substring(0, 80)), WRONG - 56);
    }

    static void promise24ItEndsInTheMidst() {
        String eight = ROW.repeat(8);
        for (int length = 1; length <= 56; length++) {
            due("cut at " + length, textOf(eight.substring(0, length)), length % 7 == 0 ? length / 7 : WRONG - length);
        }
    }

    static void promise24TheFirstByteThatCannotStandThere() {
        String eight = ROW.repeat(8);
        for (int place = 0; place < 56; place++) {
            String before = eight.substring(0, place);
            String after = eight.substring(place + 1);
            due("wrong at " + place, textOf(before + "?" + after), WRONG - place);
            due("wrong at " + place + " and to the end", textOf(before + "?".repeat(80 - place)), WRONG - place);
            due("wrong at " + place + ", where it ends", textOf(before + "?"), WRONG - place);
        }
    }

    /** Each byte at each place of a row: digits, the letters, and signs beside them, those above 127 too. */
    static void promise24EachByteAtEachPlace() {
        String[] right = {"bclr", "0123456789", "0123456789", ":", "0123456789", "0123456789", ";"};
        for (int row = 0; row < 8; row += 7) {
            for (int place = 0; place < 7; place++) {
                for (int sign = 0; sign < 256; sign++) {
                    String last = ROW.substring(0, place) + (char) sign + ROW.substring(place + 1);
                    boolean stands = right[place].indexOf(sign) >= 0;
                    int at = 7 * row + place;
                    due("byte " + sign + " at " + at, textOf(ROW.repeat(row) + last), stands ? row + 1 : WRONG - at);
                }
            }
        }
    }

    static void promise24TheTapeIsEmptyWhateverIsAnswered() {
        String[] texts = {"", ROW, ROW.repeat(8), "?", "b", "b40", ROW + "?", ROW.repeat(8) + "b", "?".repeat(80)};
        for (String text : texts) {
            AbreastQuay x = new AbreastQuay();
            Given.feedText(x, text);
            int answer = x.text();
            due("the tape behind " + answer, x.told(5), 0);
            due("an empty TEXT", x.text(), 0);
            due("the first byte again", x.feed('b', 1), 1);
        }
    }

    static void promise24AWrongTextLeavesTheDues() {
        String[] texts = {"?", "b", ROW + "?", ROW + "c10:", ROW.repeat(8) + "b", "c40:01;l40:01;r40:01;b40:01,"};
        for (String text : texts) {
            AbreastQuay x = Given.wide(0, 1);
            Given.takeText(x, "b09:50;b10:03;", 2);
            Given.feedText(x, text);
            int before = x.told(7);
            Check.holds(text + " is WRONG", x.text() <= WRONG);
            due("findings", x.told(7), before + 1);
            due("rows of DUES", x.told(4), 2);
            due("due", x.due(0, 1), 30);
        }
    }

    /** Behind a WRONG text all but the tape and told(7) is as in a twin whose tape is emptied by hand. */
    static void promise24AWrongTextChangesTheTapeAlone() {
        AbreastQuay asked = Given.busy();
        Given.feedText(asked, "?");
        due("wrong behind two rows", asked.text(), WRONG - 14);
        AbreastQuay twin = Given.busy();
        due("two rows", twin.text(), 2);
        Given.takeText(twin, "r40:02;l40:03;c20:09;b40:05;", 4);
        Check.holds("nothing else is changed", Given.everythingOf(asked).equals(Given.everythingOf(twin)));
    }

    static void promise24InPlaceOfThoseThatWere() {
        AbreastQuay x = Given.wide(0, 1);
        Given.takeText(x, ROW.repeat(8), 8);
        Given.takeText(x, "b40:11;", 1);
        due("one row now", x.told(4), 1);
        due("by that row", x.due(0, 1), 110);
        Given.takeText(x, "c40:12;", 1);
        due("none of those that were", x.due(0, 1), NONE);
        Given.takeText(x, "", 0);
        due("no rows", x.told(4), 0);
    }

    static void promise24ATextFedByParts() {
        AbreastQuay x = Given.wide(0, 1);
        for (char sign : "b10:06;".toCharArray()) {
            Given.feedText(x, String.valueOf(sign));
        }
        due("a row", x.text(), 1);
        due("due", x.due(0, 1), 60);
    }

    // ---- promise 25: due

    static void promise25NightsAre0To99() {
        AbreastQuay x = Given.wide(0, 1);
        Given.takeText(x, ROW, 1);
        for (int nights = 0; nights <= 99; nights++) {
            due("due(0, " + nights + ")", x.due(0, nights), 70 * nights);
        }
        for (int nights : outside(0, 99)) {
            refuses(BEYOND, BUSY, "due(3, " + nights + ")", y -> y.due(3, nights));
            refuses(BEYOND, () -> Given.wide(0, 1), "BEYOND before NONE, due(0, " + nights + ")", y -> y.due(0, nights));
        }
    }

    static void promise25NoSuchBoat() {
        for (int boat : noneOf(Given.BUSY_BOATS)) {
            refuses(BEYOND, BUSY, "due(" + boat + ", 1)", x -> x.due(boat, 1));
        }
        for (int boat : noneOf(8)) {
            refuses(BEYOND, CRAMMED, "due(" + boat + ", 1)", x -> x.due(boat, 1));
        }
    }

    static void promise25TheLengthOfTheRowIsNotBelowTheBoats() {
        for (int length : new int[] {1, 2, 9, 10, 11, 39, 40}) {
            AbreastQuay x = new AbreastQuay();
            due("boat", x.boat(BOAT, length, 0, false), 0);
            Given.takeText(x, row('b', length - 1, 3), 1);
            due("one below LENGTH " + length, x.due(0, 1), NONE);
            Given.takeText(x, row('b', length, 3), 1);
            due("LENGTH " + length, x.due(0, 1), 3 * length);
            Given.takeText(x, row('b', length + 1, 3), 1);
            due("one above LENGTH " + length, x.due(0, 1), 3 * length);
            Given.takeText(x, row('b', 99, 3), 1);
            due("the greatest", x.due(0, 1), 3 * length);
            Given.takeText(x, row('b', 0, 3), 1);
            due("the least", x.due(0, 1), NONE);
        }
    }

    private static String row(char letter, int length, int price) {
        return String.format("%c%02d:%02d;", letter, length, price);
    }

    static void promise25TheLeastAndTheGreatestDues() {
        AbreastQuay x = new AbreastQuay();
        due("shortest", x.boat(BOAT, 1, 0, false), 0);
        due("longest", x.boat(BOAT, 40, 0, false), 1);
        Given.takeText(x, "b40:99;", 1);
        due("99 times 40 times 99", x.due(1, 99), 392040);
        due("99 times 1 times 1", x.due(0, 1), 99);
        due("no nights", x.due(1, 0), 0);
        Given.takeText(x, "b40:00;", 1);
        due("PRICE 0 is a PRICE", x.due(1, 99), 0);
        Given.takeText(x, "b40:10;", 1);
        due("PRICE 10", x.due(0, 1), 10);
        Given.takeText(x, "b40:01;", 1);
        due("PRICE 1", x.due(0, 1), 1);
    }

    static void promise25RowsForItsKindOrOneAbove() {
        String letters = "bclr";
        boolean[][] isOne = {
            {true, false, false, false}, {true, true, false, false}, {true, false, true, false}, {true, false, true, true},
        };
        for (int kind = 0; kind < 4; kind++) {
            for (int row = 0; row < 4; row++) {
                AbreastQuay x = new AbreastQuay();
                due("boat", x.boat(kind, 10, 0, false), 0);
                Given.takeText(x, row(letters.charAt(row), 10, 5), 1);
                due("kind " + kind + " by " + letters.charAt(row), x.due(0, 2), isOne[kind][row] ? 100 : NONE);
            }
        }
    }

    static void promise25TheFirstRowOfSeveral() {
        AbreastQuay x = new AbreastQuay();
        due("RALLY", x.boat(RALLY, 10, 0, false), 0);
        Given.takeText(x, "b10:01;r10:02;l10:03;", 3);
        due("one above its kind comes first", x.due(0, 1), 10);
        Given.takeText(x, "r09:01;c10:02;l10:03;r10:04;b10:05;", 5);
        due("too short, another kind, then CLUB", x.due(0, 1), 30);
        Given.takeText(x, "r10:06;r10:07;", 2);
        due("of like ones the first", x.due(0, 1), 60);
    }

    static void promise25EachOfEightRows() {
        for (int which = 0; which < 8; which++) {
            AbreastQuay x = Given.wide(0, 1);
            String text = "b09:99;".repeat(which) + "b10:01;" + "b40:98;".repeat(7 - which);
            Given.takeText(x, text, 8);
            due("row " + which, x.due(0, 1), 10);
        }
        AbreastQuay y = Given.wide(0, 1);
        Given.takeText(y, "b09:99;".repeat(8), 8);
        due("none of eight", y.due(0, 1), NONE);
    }

    static void promise25NoneChangesNothing() {
        refuses(NONE, () -> Given.wide(1, 1), "no rows", x -> x.due(0, 1));
        refuses(NONE, () -> Given.wide(1, 1), "no rows, no nights", x -> x.due(0, 0));
        refuses(NONE, () -> {
            AbreastQuay x = Given.busy();
            due("two rows", x.text(), 2);
            Given.takeText(x, "r40:01;c40:02;", 2);
            return x;
        }, "rows for other kinds", x -> x.due(3, 99));
        onlyTells(14 * 3 * 7, BUSY, "a row", x -> x.due(3, 7));
    }

    static void promise25OneThatLiesNowhereOwes() {
        onlyTells(20 * 2, BUSY, "one that has left", x -> x.due(4, 1));
        onlyTells(30 * 5, BUSY, "one that never came", x -> x.due(6, 1));
    }
}
