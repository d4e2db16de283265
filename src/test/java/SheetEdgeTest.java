/** Boundary cases of promises 26 to 29: sheets. */
public final class SheetEdgeTest extends Edges {
    private static final int[] WIDTHS = {8, 16, 32};

    public static void main(String[] args) {
        runAll(SheetEdgeTest.class);
    }

    /** One sheet, s, of so many numbers: 1, 2, .. */
    private static AbreastQuay sheetOf(int s, int bits, int n) {
        AbreastQuay x = Given.wide(1, 8);
        fill(x, s, bits, n, 1);
        return x;
    }

    private static void fill(AbreastQuay x, int s, int bits, int n, int from) {
        due("sheet", x.sheet(s, bits, n), n);
        for (int i = 0; i < n; i++) {
            due("write", x.write(s, i, from + i), 0);
        }
    }

    /** The numbers of a sheet; they are 0 then. */
    private static void numbersAre(String what, AbreastQuay x, int s, int... numbers) {
        for (int i = 0; i < numbers.length; i++) {
            due(what + ", number " + i, x.write(s, i, 0), numbers[i]);
        }
        if (numbers.length < 8) {
            due(what + ", no more", x.write(s, numbers.length, 0), BEYOND);
        }
    }

    // ---- promise 26: sheet

    static void promise26SheetsAre0To3() {
        for (int s = 0; s <= 3; s++) {
            AbreastQuay x = new AbreastQuay();
            due("sheet(" + s + ", 8, 1)", x.sheet(s, 8, 1), 1);
            for (int other = 0; other <= 3; other++) {
                due("write(" + other + ", 0, 5)", x.write(other, 0, 5), other == s ? 0 : MISSING);
            }
        }
        for (int s : outside(0, 3)) {
            refuses(BEYOND, NEW, "sheet(" + s + ", 8, 1)", x -> x.sheet(s, 8, 1));
            refuses(BEYOND, BUSY, "sheet(" + s + ", 0, 0)", x -> x.sheet(s, 0, 0));
            refuses(BEYOND, BUSY, "BEYOND before SIZE, sheet(" + s + ", 8, -1)", x -> x.sheet(s, 8, -1));
        }
    }

    static void promise26BitsAre0Or8Or16Or32() {
        for (int bits = -1; bits <= 65; bits++) {
            if (bits != 0 && bits != 8 && bits != 16 && bits != 32) {
                refusesBits(bits);
            }
        }
        for (int bits : new int[] {MIN, MIN + 8, -32, -16, -8, 128, 256, 264, MAX}) {
            refusesBits(bits);
        }
    }

    private static void refusesBits(int bits) {
        refuses(BEYOND, BUSY, "sheet(2, " + bits + ", 3)", x -> x.sheet(2, bits, 3));
        refuses(BEYOND, BUSY, "BEYOND before SIZE, sheet(2, " + bits + ", -1)", x -> x.sheet(2, bits, -1));
    }

    static void promise26From0To8NumbersAll0() {
        for (int bits : WIDTHS) {
            for (int n = 0; n <= 8; n++) {
                AbreastQuay x = Given.busy();
                due("sheet(2, " + bits + ", " + n + ")", x.sheet(2, bits, n), n);
                numbersAre("all 0", x, 2, new int[n]);
                due("no such number, and not MISSING", x.write(2, n, 1), BEYOND);
            }
        }
    }

    static void promise26SizeForEachBits() {
        for (int bits : new int[] {0, 8, 16, 32}) {
            for (int s = 0; s <= 3; s++) {
                for (int n : new int[] {-1, -8, MIN + 1, MIN}) {
                    int sheet = s;
                    refuses(SIZE, BUSY, "sheet(" + s + ", " + bits + ", " + n + ")", x -> x.sheet(sheet, bits, n));
                }
            }
        }
    }

    static void promise26Above8IsBeyondForEachBits() {
        for (int bits : new int[] {0, 8, 16, 32}) {
            for (int s = 0; s <= 3; s++) {
                for (int n : new int[] {9, 10, 256, MAX - 1, MAX}) {
                    int sheet = s;
                    refuses(BEYOND, BUSY, "sheet(" + s + ", " + bits + ", " + n + ")", x -> x.sheet(sheet, bits, n));
                }
            }
        }
    }

    static void promise26Bits0IsMissing() {
        for (int n = 0; n <= 8; n++) {
            AbreastQuay x = Given.busy();
            due("sheet(0, 0, " + n + ")", x.sheet(0, 0, n), 0);
            due("it is MISSING", x.write(0, 0, 1), MISSING);
            due("again", x.sheet(0, 0, n), 0);
            due("a sheet again", x.sheet(0, 8, 4), 4);
            numbersAre("all 0", x, 0, 0, 0, 0, 0);
        }
    }

    static void promise26OthersStay() {
        AbreastQuay x = Given.busy();
        due("sheet 0 anew", x.sheet(0, 32, 8), 8);
        due("sheet 1 is MISSING now", x.sheet(1, 0, 0), 0);
        numbersAre("sheet 2", x, 2, MIN, MAX, 3, 2, 1, 0, -1, 6);
        due("sheet 3", x.write(3, 0, 0), MISSING);
    }

    // ---- promise 27: write

    static void promise27EachOfEightNumbers() {
        for (int bits : WIDTHS) {
            AbreastQuay x = sheetOf(1, bits, 8);
            numbersAre("what they were", x, 1, 1, 2, 3, 4, 5, 6, 7, 8);
            numbersAre("what was written", x, 1, 0, 0, 0, 0, 0, 0, 0, 0);
        }
    }

    static void promise27NoSuchNumber() {
        for (int bits : WIDTHS) {
            for (int n = 0; n <= 8; n++) {
                int count = n;
                for (int i : new int[] {MIN, MIN + 1, -1, n, n + 1, 8, 32, 256, MAX - 1, MAX}) {
                    refuses(BEYOND, () -> sheetOf(3, bits, count), "write(3, " + i + ", 1) of " + n, x -> x.write(3, i, 1));
                }
            }
        }
    }

    static void promise27NoSuchSheet() {
        for (int s : outside(0, 3)) {
            refuses(BEYOND, BUSY, "write(" + s + ", 0, 1)", x -> x.write(s, 0, 1));
            refuses(BEYOND, NEW, "write(" + s + ", -1, 1)", x -> x.write(s, -1, 1));
        }
    }

    static void promise27MissingBeforeNoSuchNumber() {
        for (int i : new int[] {MIN, -1, 0, 7, 8, MAX}) {
            refuses(MISSING, BUSY, "write(3, " + i + ", 1)", x -> x.write(3, i, 1));
        }
    }

    static void promise27TheLowestBits() {
        int[] values = {0, 1, 127, 128, 255, 256, 32767, 32768, 65535, 65536, 1 << 24, MAX, MIN, -1, -128, -129, -32768, -32769};
        for (int v : values) {
            AbreastQuay x = new AbreastQuay();
            for (int s = 0; s < 3; s++) {
                due("sheet", x.sheet(s, WIDTHS[s], 1), 1);
                due("write " + v, x.write(s, 0, v), 0);
            }
            due("8 bits of " + v, x.write(0, 0, 0) & 0xFF, v & 0xFF);
            due("16 bits of " + v, x.write(1, 0, 0) & 0xFFFF, v & 0xFFFF);
            due("32 bits of " + v, x.write(2, 0, 0), v);
        }
    }

    /** The document tells no sign; numbers of 32 bits have one, and so have those of 8 and 16 (NOTES.md). */
    static void promise27NumbersHaveASign() {
        AbreastQuay x = new AbreastQuay();
        due("sheets", x.sheet(0, 8, 2) + x.sheet(1, 16, 2), 4);
        due("write", x.write(0, 0, 127) + x.write(0, 1, 128) + x.write(1, 0, 32767) + x.write(1, 1, 32768), 0);
        numbersAre("8 bits", x, 0, 127, -128);
        numbersAre("16 bits", x, 1, 32767, -32768);
    }

    static void promise27ANumberBelowAllAnswersIsNoFinding() {
        for (int v : new int[] {-1000001, -1000007, -1000100, MIN}) {
            AbreastQuay x = new AbreastQuay();
            due("sheet", x.sheet(0, 32, 1), 1);
            due("write", x.write(0, 0, v), 0);
            due("what it was", x.write(0, 0, 9), v);
            due("no finding", x.told(7), 0);
            due("it was written", x.write(0, 0, 0), 9);
        }
    }

    // ---- promise 28: copy

    /** Sheets 0 (1, 2, .. 5) and 1 (11, 12, 13) of as many bits, 2 of other bits, 3 MISSING. */
    private static AbreastQuay copying() {
        AbreastQuay x = new AbreastQuay();
        fill(x, 0, 8, 5, 1);
        fill(x, 1, 8, 3, 11);
        fill(x, 2, 16, 5, 21);
        return x;
    }

    static void promise28EachRangeThatIsThereOrNot() {
        for (int from = -1; from <= 6; from++) {
            for (int to = -1; to <= 4; to++) {
                for (int n = -1; n <= 6; n++) {
                    copied(from, to, n);
                }
            }
        }
    }

    private static void copied(int from, int to, int n) {
        boolean right = from >= 0 && to >= 0 && n >= 0 && from + n <= 5 && to + n <= 3;
        String call = "copy(0, " + from + ", 1, " + to + ", " + n + ")";
        if (!right) {
            refuses(BEYOND, SheetEdgeTest::copying, call, x -> x.copy(0, from, 1, to, n));
            return;
        }
        AbreastQuay x = copying();
        due(call, x.copy(0, from, 1, to, n), n);
        int[] numbers = {11, 12, 13};
        for (int i = 0; i < n; i++) {
            numbers[to + i] = from + i + 1;
        }
        numbersAre(call, x, 1, numbers);
        numbersAre(call + ", from where they came", x, 0, 1, 2, 3, 4, 5);
    }

    static void promise28AsTheyAllWere() {
        for (int from = 0; from <= 8; from++) {
            for (int to = 0; to <= 8; to++) {
                int n = 8 - Math.max(from, to);
                AbreastQuay x = sheetOf(2, 32, 8);
                due("copy(2, " + from + ", 2, " + to + ", " + n + ")", x.copy(2, from, 2, to, n), n);
                int[] numbers = {1, 2, 3, 4, 5, 6, 7, 8};
                for (int i = 0; i < n; i++) {
                    numbers[to + i] = from + i + 1;
                }
                numbersAre("from " + from + " to " + to, x, 2, numbers);
            }
        }
    }

    static void promise28SumsThatWrapAround() {
        int[][] wrong = {
            {1, 0, MAX}, {0, 1, MAX}, {MAX, 0, 1}, {0, MAX, 1}, {MAX, MAX, MAX}, {MAX, 0, MAX}, {0, MAX, MAX}, {MAX, MAX, 0},
            {MIN, 0, 1}, {0, MIN, 1}, {0, 0, MIN}, {MIN, MIN, MIN}, {MIN, 0, MIN}, {0, MIN, MIN}, {1, 1, MIN}, {MAX, MAX, MIN},
            {5, 0, MAX - 4}, {2, 2, MAX - 1}, {MAX - 1, 0, 3}, {-1, 0, 1}, {0, -1, 1}, {1, 1, -1},
        };
        for (int[] w : wrong) {
            String call = "copy(0, " + w[0] + ", 1, " + w[1] + ", " + w[2] + ")";
            refuses(BEYOND, SheetEdgeTest::copying, call, x -> x.copy(0, w[0], 1, w[1], w[2]));
        }
    }

    static void promise28NoSuchSheet() {
        for (int s : outside(0, 3)) {
            refuses(BEYOND, BUSY, "copy(" + s + ", 0, 0, 0, 1)", x -> x.copy(s, 0, 0, 0, 1));
            refuses(BEYOND, BUSY, "copy(0, 0, " + s + ", 0, 1)", x -> x.copy(0, 0, s, 0, 1));
            refuses(BEYOND, BUSY, "copy(" + s + ", 0, " + s + ", 0, 0)", x -> x.copy(s, 0, s, 0, 0));
            refuses(BEYOND, BUSY, "BEYOND before MISSING, copy(" + s + ", 0, 3, 0, 0)", x -> x.copy(s, 0, 3, 0, 0));
            refuses(BEYOND, BUSY, "BEYOND before MISSING, copy(3, 0, " + s + ", 0, 0)", x -> x.copy(3, 0, s, 0, 0));
        }
    }

    static void promise28OneIsMissing() {
        refuses(MISSING, BUSY, "from a MISSING one", x -> x.copy(3, 0, 0, 0, 1));
        refuses(MISSING, BUSY, "to a MISSING one", x -> x.copy(0, 0, 3, 0, 1));
        refuses(MISSING, BUSY, "both, none copied", x -> x.copy(3, 0, 3, 0, 0));
        refuses(MISSING, BUSY, "MISSING before BEYOND", x -> x.copy(0, -1, 3, 9, -1));
        refuses(MISSING, BUSY, "MISSING before BEYOND", x -> x.copy(3, MAX, 0, MIN, MAX));
    }

    static void promise28NotOfAsManyBits() {
        for (int s = 0; s < 3; s++) {
            for (int t = 0; t < 3; t++) {
                int from = s;
                int to = t;
                if (s == t) {
                    due("as many bits", Given.busy().copy(s, 0, t, 0, 3), 3);
                } else {
                    refuses(KIND, BUSY, "copy(" + s + ", 0, " + t + ", 0, 1)", x -> x.copy(from, 0, to, 0, 1));
                    refuses(KIND, BUSY, "KIND for none, too", x -> x.copy(from, 0, to, 0, 0));
                    refuses(KIND, BUSY, "KIND before BEYOND", x -> x.copy(from, -1, to, 9, MAX));
                }
            }
        }
    }

    static void promise28NoneAtTheEnds() {
        due("at the begin", copying().copy(0, 0, 1, 0, 0), 0);
        due("at both ends", copying().copy(0, 5, 1, 3, 0), 0);
        refuses(BEYOND, SheetEdgeTest::copying, "one behind the source's end", x -> x.copy(0, 6, 1, 3, 0));
        refuses(BEYOND, SheetEdgeTest::copying, "one behind the target's end", x -> x.copy(0, 5, 1, 4, 0));
        AbreastQuay x = new AbreastQuay();
        due("sheets without numbers", x.sheet(0, 8, 0) + x.sheet(1, 8, 0), 0);
        due("none of none", x.copy(0, 0, 1, 0, 0), 0);
        due("one of none", x.copy(0, 0, 1, 0, 1), BEYOND);
        due("the same one", x.copy(0, 0, 0, 0, 0), 0);
    }

    static void promise28AllOfEight() {
        AbreastQuay x = new AbreastQuay();
        fill(x, 0, 16, 8, 1);
        fill(x, 3, 16, 8, -8);
        due("all", x.copy(3, 0, 0, 0, 8), 8);
        numbersAre("they came", x, 0, -8, -7, -6, -5, -4, -3, -2, -1);
        due("nine", x.copy(3, 0, 0, 0, 9), BEYOND);
    }

    static void promise28NumbersAtTheEnds() {
        AbreastQuay x = Given.busy();
        due("sheet", x.sheet(3, 32, 2), 2);
        due("the ends of int", x.copy(2, 0, 3, 0, 2), 2);
        numbersAre("they came", x, 3, MIN, MAX);
    }

    // ---- promise 29: read

    private static AbreastQuay reading(int bits, int... numbers) {
        AbreastQuay x = Given.wide(1, 8);
        due("sheet", x.sheet(0, bits, numbers.length), numbers.length);
        for (int i = 0; i < numbers.length; i++) {
            due("write", x.write(0, i, numbers[i]), 0);
        }
        return x;
    }

    private static void comeByReading(String what, AbreastQuay x, int... boats) {
        int before = x.told(7);
        due(what, x.read(0, 0), boats.length);
        for (int i = 0; i < boats.length; i++) {
            due(what + ", place " + i, x.at(0, i), boats[i]);
        }
        due(what + ", no more", x.told(2), boats.length);
        due(what + ", no finding", x.told(7), before);
        due(what + ", nobody is moved", x.told(6), 0);
    }

    static void promise29FromNoneToSixCome() {
        for (int bits : WIDTHS) {
            comeByReading("no numbers", reading(bits));
            comeByReading("one", reading(bits, 7), 7);
            comeByReading("six", reading(bits, 5, 4, 3, 2, 1, 0), 5, 4, 3, 2, 1, 0);
            comeByReading("eight for six places", reading(bits, 7, 6, 5, 4, 3, 2, 1, 0), 7, 6, 5, 4, 3, 2);
        }
    }

    static void promise29UpToTheFirstThatCannot() {
        for (int none : new int[] {MIN, -1, 8, 32, 256, 1 << 16, MAX}) {
            comeByReading("no such BOAT first", reading(32, none, 1, 2));
            comeByReading("no such BOAT then", reading(32, 1, none, 2), 1);
        }
        comeByReading("one twice", reading(8, 3, 3, 4), 3);
        comeByReading("8 bits of 256", reading(8, 256, 257), 0, 1);
        comeByReading("16 bits of 65536", reading(16, 65537, 65536), 1, 0);
        comeByReading("8 bits of 255", reading(8, 255));
        comeByReading("16 bits of 256", reading(16, 2, 256, 3), 2);
    }

    static void promise29OneThatLiesOrWouldNotLieRight() {
        AbreastQuay x = Given.wide(2, 2);
        due("long", x.boat(BOAT, 11, 0, false), 2);
        due("elsewhere", x.comes(1, 1), 0);
        due("sheet", x.sheet(0, 8, 3), 3);
        due("0, then 2, which is too long, then 1", x.write(0, 1, 2) + x.write(0, 2, 1), 0);
        due("one comes", x.read(0, 0), 1);
        due("the long one does not", x.of(2, 7), -1);
        due("over", x.over(1), 0);
        due("number 0 lies by now", x.read(0, 0), 0);
        due("goes", x.goes(0), 0);
        due("up to the one that lies elsewhere", x.read(0, 0), 2);
        due("it lies there still", x.of(1, 7), 1);
    }

    static void promise29OutsideOfThoseThatLie() {
        AbreastQuay x = Given.row(5, 8);
        fill(x, 0, 8, 3, 5);
        due("one for the last place", x.read(0, 0), 1);
        due("it lies there", x.at(0, 5), 5);
        due("none for a full BERTH", x.read(0, 0), 0);
    }

    static void promise29TheSheetStays() {
        AbreastQuay x = reading(8, 3, 9, 4);
        due("one", x.read(0, 0), 1);
        numbersAre("as they were", x, 0, 3, 9, 4);
    }

    static void promise29NoneComingChangesNothing() {
        onlyTells(0, BUSY, "the first number is one too deep", x -> x.read(0, 1));
        onlyTells(0, BUSY, "the first number is no BOAT", x -> x.read(1, 1));
        onlyTells(0, BUSY, "a full BERTH", x -> x.read(0, 0));
    }

    static void promise29NoSuchSheetOrBerth() {
        for (int s : outside(0, 3)) {
            refuses(BEYOND, BUSY, "read(" + s + ", 2)", x -> x.read(s, 2));
        }
        for (int berth : noneOf(Given.BUSY_BERTHS)) {
            refuses(BEYOND, BUSY, "read(0, " + berth + ")", x -> x.read(0, berth));
            refuses(BEYOND, BUSY, "BEYOND before MISSING, read(3, " + berth + ")", x -> x.read(3, berth));
        }
        refuses(BEYOND, CRAMMED, "a fifth BERTH", x -> x.read(0, 4));
    }

    static void promise29Missing() {
        for (int berth = 0; berth < Given.BUSY_BERTHS; berth++) {
            int b = berth;
            refuses(MISSING, BUSY, "read(3, " + berth + ")", x -> x.read(3, b));
        }
        refuses(MISSING, () -> {
            AbreastQuay x = reading(8, 1, 2);
            due("MISSING again", x.sheet(0, 0, 0), 0);
            return x;
        }, "one that is MISSING again", x -> x.read(0, 0));
    }
}
