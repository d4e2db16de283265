import java.nio.charset.StandardCharsets;

/** Each promise of the document by itself: ordinary inputs, the edges it names, wrong inputs. */
public final class PromiseTest {
    private static final int BEYOND = -1000001;
    private static final int FULL = -1000002;
    private static final int KIND = -1000003;
    private static final int NONE = -1000004;
    private static final int STATE = -1000005;
    private static final int MISSING = -1000006;
    private static final int SIZE = -1000007;
    private static final int WRONG = -1000100;
    private static final int ALL = 0xFFFFFF;
    private static final int MIN = Integer.MIN_VALUE;
    private static final int MAX = Integer.MAX_VALUE;

    public static void main(String[] args) {
        promise1NewObject();
        promise2Berth();
        promise3Boat();
        promise4Leaves();
        promise5Aboard();
        promise6Over();
        promise7As();
        promise8Of();
        promise9At();
        promise10May();
        promise11Comes();
        promise12Between();
        promise13Goes();
        promise14Fault();
        promise15Pairs();
        promise16Offer();
        promise17Plan();
        promise17PlanOrder();
        promise18Lies();
        promise19Lay();
        promise20Tide();
        promise21Run();
        promise22Could();
        promise23Feed();
        promise24Text();
        promise25Due();
        promise26Sheet();
        promise27Write();
        promise28Copy();
        promise29Read();
        promise30Told();
        Check.end();
    }

    private static void due(String call, long got, long want) {
        Check.due(call, got, want);
    }

    /** A deep quay of n like berths, and n plain boats that lie nowhere. */
    private static AbreastQuay wide(int berths, int boats) {
        AbreastQuay x = new AbreastQuay();
        for (int i = 0; i < berths; i++) {
            due("wide berth", x.berth(90, 0, 6, 6), i);
        }
        for (int i = 0; i < boats; i++) {
            due("wide boat", x.boat(0, 10, 10, false), i);
        }
        return x;
    }

    private static void feedText(AbreastQuay x, String text) {
        byte[] bytes = text.getBytes(StandardCharsets.ISO_8859_1);
        for (int i = 0; i < bytes.length; i++) {
            due("feed of " + text, x.feed(bytes[i], 1), i + 1);
        }
    }

    private static void promise1NewObject() {
        AbreastQuay x = new AbreastQuay();
        for (int what = 0; what < 8; what++) {
            due("1 told(" + what + ")", x.told(what), 0);
        }
        due("1 over", x.over(0), 0);
        due("1 tide", x.tide(ALL), ALL);
        due("1 plan of none", x.plan(0), 0);
        due("1 lay of none", x.lay(0), 0);
        due("1 text", x.text(), 0);
        for (int s = 0; s < 4; s++) {
            due("1 write", x.write(s, 0, 1), MISSING);
        }
        due("1 at", x.at(0, 0), BEYOND);
        due("1 of", x.of(0, 0), BEYOND);
        AbreastQuay other = new AbreastQuay();
        due("1 another berth", x.berth(1, 1, 1, 1), 0);
        due("1 objects stand alone", other.told(0), 0);
    }

    private static void promise2Berth() {
        AbreastQuay x = new AbreastQuay();
        int[][] wrong = {
            {-1, 0, 1, 0}, {91, 0, 1, 0}, {0, -1, 1, 0}, {0, 10, 1, 0}, {0, 0, 0, 0}, {0, 0, 7, 0},
            {0, 0, 1, -1}, {0, 0, 1, 7}, {MIN, 0, 1, 0}, {MAX, 0, 1, 0}, {0, MAX, 1, 0}, {0, 0, MIN, 0},
        };
        for (int[] w : wrong) {
            due("2 wrong berth", x.berth(w[0], w[1], w[2], w[3]), BEYOND);
        }
        due("2 none made", x.told(0), 0);
        due("2 least", x.berth(0, 0, 1, 0), 0);
        due("2 most", x.berth(90, 9, 6, 6), 1);
        due("2 third", x.berth(1, 2, 3, 4), 2);
        due("2 fourth", x.berth(1, 2, 3, 4), 3);
        due("2 fifth", x.berth(1, 2, 3, 4), FULL);
        due("2 BEYOND before FULL", x.berth(91, 2, 3, 4), BEYOND);
        due("2 four", x.told(0), 4);
    }

    private static void promise3Boat() {
        AbreastQuay x = new AbreastQuay();
        int[][] wrong = {
            {-1, 1, 0}, {4, 1, 0}, {0, 0, 0}, {0, 41, 0}, {0, 1, -1}, {0, 1, 100}, {MIN, 1, 0}, {0, MAX, 0}, {0, 1, MIN},
        };
        for (int[] w : wrong) {
            due("3 wrong boat", x.boat(w[0], w[1], w[2], false), BEYOND);
        }
        due("3 least", x.boat(0, 1, 0, false), 0);
        due("3 most", x.boat(3, 40, 99, true), 1);
        due("3 lies nowhere", x.of(1, 7), -1);
        for (int i = 2; i < 8; i++) {
            due("3 more", x.boat(1, 2, 3, false), i);
        }
        due("3 ninth", x.boat(0, 1, 0, false), FULL);
        due("3 BEYOND before FULL", x.boat(0, 0, 0, false), BEYOND);
        due("3 eight", x.told(1), 8);
    }

    private static void promise4Leaves() {
        AbreastQuay x = wide(0, 1);
        due("4 at first", x.of(0, 4), 0);
        due("4 at first", x.of(0, 5), 23);
        due("4 both", x.leaves(0, 3, 17), 1);
        due("4 like ones", x.leaves(0, 9, 9), 1);
        due("4 first", x.of(0, 4), 9);
        due("4 last", x.of(0, 5), 9);
        due("4 first above last", x.leaves(0, 5, 4), BEYOND);
        due("4 below 0", x.leaves(0, -1, 4), BEYOND);
        due("4 above 23", x.leaves(0, 3, 24), BEYOND);
        due("4 both above", x.leaves(0, 24, 24), BEYOND);
        due("4 both below", x.leaves(0, -2, -1), BEYOND);
        due("4 extremes", x.leaves(0, MIN, MAX), BEYOND);
        due("4 no boat", x.leaves(1, 0, 1), BEYOND);
        due("4 no boat", x.leaves(-1, 0, 1), BEYOND);
        due("4 no boat", x.leaves(8, 0, 1), BEYOND);
        due("4 unchanged", x.of(0, 4) * 100 + x.of(0, 5), 909);
        due("4 ends", x.leaves(0, 0, 23), 1);
    }

    private static void promise5Aboard() {
        AbreastQuay x = wide(0, 1);
        due("5 all at first", x.aboard(0, 0), ALL);
        due("5 none", x.aboard(0, 1 << 23 | 5), 0);
        due("5 some", x.of(0, 6), 1 << 23 | 5);
        due("5 hour 24", x.aboard(0, 1 << 24), BEYOND);
        due("5 negative", x.aboard(0, -1), BEYOND);
        due("5 lowest", x.aboard(0, MIN), BEYOND);
        due("5 no boat", x.aboard(1, 0), BEYOND);
        due("5 no boat", x.aboard(-1, 0), BEYOND);
        due("5 unchanged", x.aboard(0, ALL), 1 << 23 | 5);
    }

    private static void promise6Over() {
        AbreastQuay x = new AbreastQuay();
        due("6 first", x.over(20), 0);
        due("6 above", x.over(21), BEYOND);
        due("6 below", x.over(-1), BEYOND);
        due("6 extreme", x.over(MIN), BEYOND);
        due("6 what it was", x.over(7), 20);
        due("6 what it was", x.over(0), 7);
    }

    private static void promise7As() {
        AbreastQuay x = new AbreastQuay();
        for (int kind = 0; kind < 4; kind++) {
            due("7 boat", x.boat(kind, 1, 0, false), kind);
        }
        boolean[][] under = {
            {true, false, false, false}, {true, true, false, false}, {true, false, true, false}, {true, false, true, true},
        };
        for (int boat = 0; boat < 4; boat++) {
            for (int kind = 0; kind < 4; kind++) {
                due("7 as(" + boat + ", " + kind + ")", x.as(boat, kind), under[boat][kind] ? boat : KIND);
            }
            due("7 kind 4", x.as(boat, 4), BEYOND);
            due("7 kind -1", x.as(boat, -1), BEYOND);
        }
        due("7 no boat", x.as(4, 0), BEYOND);
        due("7 no boat", x.as(-1, 0), BEYOND);
        due("7 no boat", x.as(MAX, 0), BEYOND);
    }

    private static void promise8Of() {
        AbreastQuay x = wide(1, 2);
        due("8 boat", x.boat(3, 17, 21, true), 2);
        due("8 leaves", x.leaves(2, 4, 11), 1);
        due("8 aboard", x.aboard(2, 77), ALL);
        int[] nowhere = {3, 17, 21, 1, 4, 11, 77, -1, -1, 0, 0};
        for (int what = 0; what < nowhere.length; what++) {
            due("8 of(2, " + what + ")", x.of(2, what), nowhere[what]);
        }
        due("8 no power", x.of(0, 3), 0);
        due("8 comes", x.comes(0, 0), 0);
        due("8 comes", x.comes(1, 0), 1);
        due("8 berth", x.of(1, 7), 0);
        due("8 place", x.of(1, 8), 1);
        due("8 goes", x.goes(0), 1);
        due("8 moved", x.of(1, 10), 1);
        due("8 the goer is not moved", x.of(0, 10), 0);
        due("8 nowhere again", x.of(0, 7), -1);
        due("8 nowhere again", x.of(0, 8), -1);
        due("8 between", x.between(0, 0, 0), 1);
        due("8 moved twice", x.of(1, 10), 2);
        due("8 tide", x.tide(0), ALL);
        due("8 run", x.run(3), 0);
        due("8 late", x.of(1, 9), 3);
        due("8 not late, it lies nowhere", x.of(2, 9), 0);
        due("8 goes", x.goes(1), 0);
        due("8 late stays", x.of(1, 9), 3);
        due("8 what 11", x.of(0, 11), BEYOND);
        due("8 what -1", x.of(0, -1), BEYOND);
        due("8 no boat", x.of(3, 0), BEYOND);
        due("8 no boat", x.of(-1, 0), BEYOND);
        due("8 -1 is no finding", x.told(7), 4);
    }

    private static void promise9At() {
        AbreastQuay x = wide(0, 2);
        due("9 berth of one place", x.berth(90, 0, 2, 0), 0);
        due("9 comes", x.comes(1, 0), 0);
        due("9 there", x.at(0, 0), 1);
        for (int place = 1; place < 6; place++) {
            due("9 none there", x.at(0, place), -1);
        }
        due("9 place 6", x.at(0, 6), BEYOND);
        due("9 place -1", x.at(0, -1), BEYOND);
        due("9 no berth", x.at(1, 0), BEYOND);
        due("9 no berth", x.at(-1, 0), BEYOND);
        due("9 no berth", x.at(4, 0), BEYOND);
        due("9 findings", x.told(7), 5);
    }

    private static void promise10May() {
        AbreastQuay x = new AbreastQuay();
        due("10 berth", x.berth(20, 3, 3, 2), 0);
        due("10 inner", x.boat(0, 10, 20, true), 0);
        due("10 next", x.boat(0, 10, 24, false), 1);
        due("10 cat", x.boat(1, 10, 10, false), 2);
        due("10 deepest", x.boat(0, 10, 23, true), 3);
        due("10 draught above at the quay", x.may(3, 0), 2);
        due("10 right", x.may(0, 0), 0);
        due("10 comes", x.comes(0, 0), 0);
        due("10 draught with fall", x.may(3, 0), 0);
        due("10 draught just above", x.may(1, 0), 2);
        due("10 long one", x.boat(0, 11, 24, false), 4);
        due("10 draught before length", x.may(4, 0), 2);
        due("10 long one", x.boat(0, 11, 10, false), 5);
        due("10 length", x.may(5, 0), 5);
        due("10 over", x.over(1), 0);
        due("10 length with over", x.may(5, 0), 0);
        due("10 over", x.over(0), 1);
        due("10 comes", x.comes(2, 0), 1);
        due("10 a cat before length", x.may(5, 0), 4);
        due("10 power beyond reach, before a cat", x.may(3, 0), 3);
        due("10 rally", x.boat(3, 30, 90, true), 6);
        due("10 rally outside of a cat: draught first", x.may(6, 0), 2);
        due("10 small", x.boat(0, 1, 0, false), 7);
        due("10 goes", x.goes(2), 0);
        due("10 comes", x.comes(7, 0), 1);
        due("10 comes", x.comes(2, 0), KIND);
        due("10 over", x.over(20), 0);
        due("10 comes", x.comes(5, 0), 2);
        due("10 no place before all", x.may(6, 0), 1);
        due("10 lies", x.may(5, 0), STATE);
        due("10 no boat", x.may(8, 0), BEYOND);
        due("10 no boat", x.may(-1, 0), BEYOND);
        due("10 no berth", x.may(6, 1), BEYOND);
        due("10 no berth", x.may(6, -1), BEYOND);
        due("10 BEYOND before STATE", x.may(5, 1), BEYOND);
        promise10Kinds();
    }

    private static void promise10Kinds() {
        int[][] why = {
            {0, 0, 0, 6}, {4, 4, 4, 4}, {0, 0, 0, 6}, {0, 0, 0, 0},
        };
        for (int inner = 0; inner < 4; inner++) {
            for (int outer = 0; outer < 4; outer++) {
                AbreastQuay x = wide(1, 0);
                due("10 inner", x.boat(inner, 10, 0, false), 0);
                due("10 outer", x.boat(outer, 10, 0, false), 1);
                due("10 long outer", x.boat(outer, 11, 0, false), 2);
                due("10 may at the quay", x.may(1, 0), 0);
                due("10 comes", x.comes(0, 0), 0);
                due("10 kind " + outer + " outside of " + inner, x.may(1, 0), why[inner][outer]);
                boolean clubs = inner >= 2 && outer >= 2;
                int longer = inner == 1 ? 4 : clubs ? why[inner][outer] : 5;
                due("10 long kind " + outer + " outside of " + inner, x.may(2, 0), longer);
            }
        }
    }

    private static void promise11Comes() {
        AbreastQuay x = wide(0, 8);
        due("11 berth", x.berth(10, 0, 2, 0), 0);
        due("11 berth", x.berth(9, 0, 6, 0), 1);
        due("11 quay", x.comes(3, 0), 0);
        due("11 it lies", x.comes(3, 0), STATE);
        due("11 it lies elsewhere", x.comes(3, 1), STATE);
        due("11 outside", x.comes(5, 0), 1);
        due("11 full", x.comes(1, 0), FULL);
        due("11 not right", x.comes(1, 1), KIND);
        due("11 still nowhere", x.of(1, 7), -1);
        due("11 no boat", x.comes(8, 0), BEYOND);
        due("11 no boat", x.comes(-1, 0), BEYOND);
        due("11 no berth", x.comes(1, 2), BEYOND);
        due("11 no berth", x.comes(1, -1), BEYOND);
        due("11 BEYOND before STATE", x.comes(3, 2), BEYOND);
        due("11 at", x.at(0, 0), 3);
        due("11 at", x.at(0, 1), 5);
        due("11 nobody is moved", x.told(6), 0);
        due("11 two lie", x.told(2), 2);
    }

    private static void promise12Between() {
        AbreastQuay x = wide(1, 8);
        due("12 into none", x.between(0, 0, 0), 0);
        due("12 outside", x.between(1, 0, 1), 0);
        due("12 inside of both", x.between(2, 0, 0), 2);
        due("12 between", x.between(3, 0, 1), 2);
        int[] row = {2, 3, 0, 1};
        for (int place = 0; place < 4; place++) {
            due("12 row", x.at(0, place), row[place]);
            due("12 of", x.of(row[place], 8), place);
        }
        due("12 moved", x.of(0, 10), 2);
        due("12 moved", x.of(1, 10), 2);
        due("12 comer", x.of(3, 10), 0);
        due("12 ever", x.told(6), 4);
        due("12 place above how many", x.between(4, 0, 5), BEYOND);
        due("12 place below", x.between(4, 0, -1), BEYOND);
        due("12 no boat", x.between(8, 0, 0), BEYOND);
        due("12 no berth", x.between(4, 1, 0), BEYOND);
        due("12 BEYOND before STATE", x.between(0, 0, 9), BEYOND);
        due("12 lies", x.between(0, 0, 0), STATE);
        due("12 more", x.between(4, 0, 4), 0);
        due("12 more", x.between(5, 0, 0), 5);
        due("12 full", x.between(6, 0, 0), FULL);
        due("12 STATE before FULL", x.between(5, 0, 0), STATE);
        due("12 place 6 of six is none above", x.between(6, 0, 6), FULL);
        due("12 place 7", x.between(6, 0, 7), BEYOND);
        promise12Rightness();
    }

    private static void promise12Rightness() {
        AbreastQuay x = new AbreastQuay();
        due("12 berth", x.berth(50, 0, 4, 2), 0);
        due("12 plain", x.boat(0, 20, 0, false), 0);
        due("12 power", x.boat(0, 20, 0, true), 1);
        due("12 comer", x.boat(0, 20, 0, false), 2);
        due("12 short comer", x.boat(0, 10, 0, false), 3);
        due("12 cat", x.boat(1, 20, 0, false), 4);
        due("12 long", x.boat(0, 21, 0, false), 5);
        due("12 deep", x.boat(0, 20, 51, false), 6);
        due("12 comes", x.comes(0, 0), 0);
        due("12 the next one is longer", x.between(3, 0, 0), KIND);
        due("12 outside of a cat", x.between(4, 0, 0), KIND);
        due("12 too long itself", x.between(5, 0, 1), KIND);
        due("12 too deep itself", x.between(6, 0, 0), KIND);
        due("12 comes", x.comes(1, 0), 1);
        due("12 one farther out would be beyond reach", x.between(2, 0, 0), KIND);
        due("12 nothing changed", x.at(0, 0) * 10 + x.at(0, 1), 1);
        due("12 nothing changed", x.told(6), 0);
        due("12 outside of the one with power", x.between(2, 0, 2), 0);
        due("12 goes", x.goes(1), 1);
        due("12 cat at the end", x.between(4, 0, 2), 0);
        promise12FaultInside();
    }

    /** One that lies inside of the comer's place is not asked, RIGHT or not. */
    private static void promise12FaultInside() {
        AbreastQuay x = wide(1, 0);
        due("12 long", x.boat(0, 30, 0, false), 0);
        due("12 mid", x.boat(0, 20, 0, false), 1);
        due("12 short", x.boat(0, 5, 0, false), 2);
        due("12 shorter", x.boat(0, 4, 0, false), 3);
        due("12 over", x.over(20), 0);
        due("12 comes", x.comes(2, 0), 0);
        due("12 comes", x.comes(1, 0), 1);
        due("12 over", x.over(0), 20);
        due("12 fault", x.fault(0), 1);
        due("12 inside is not asked", x.between(3, 0, 2), 0);
        due("12 all farther out are asked", x.between(0, 0, 0), KIND);
        due("12 over", x.over(15), 0);
        due("12 they lie right now", x.between(0, 0, 0), 3);
    }

    private static void promise13Goes() {
        AbreastQuay x = wide(2, 5);
        for (int i = 0; i < 4; i++) {
            due("13 comes", x.comes(i, 0), i);
        }
        due("13 elsewhere", x.comes(4, 1), 0);
        due("13 aboard", x.aboard(1, 0), ALL);
        due("13 leaves", x.leaves(1, 20, 21), 1);
        due("13 goes", x.goes(1), 2);
        due("13 row", x.at(0, 0) * 100 + x.at(0, 1) * 10 + x.at(0, 2), 23);
        due("13 end of the row", x.at(0, 3), -1);
        due("13 moved", x.of(2, 10) * 10 + x.of(3, 10), 11);
        due("13 not moved", x.of(0, 10) * 10 + x.of(4, 10), 0);
        due("13 it lies nowhere", x.goes(1), STATE);
        due("13 outermost", x.goes(3), 0);
        due("13 ever", x.told(6), 2);
        due("13 no boat", x.goes(5), BEYOND);
        due("13 no boat", x.goes(-1), BEYOND);
        due("13 come again", x.comes(1, 0), 2);
    }

    private static void promise14Fault() {
        AbreastQuay x = new AbreastQuay();
        due("14 berth", x.berth(10, 5, 3, 3), 0);
        due("14 flat", x.boat(0, 20, 10, false), 0);
        due("14 deep", x.boat(0, 20, 15, false), 1);
        due("14 deeper", x.boat(0, 20, 20, false), 2);
        due("14 none", x.fault(0), -1);
        for (int i = 0; i < 3; i++) {
            due("14 comes", x.comes(i, 0), i);
        }
        due("14 all right", x.fault(0), -1);
        due("14 goes", x.goes(0), 2);
        due("14 moved nearer, right or not", x.fault(0), 0);
        due("14 goes", x.goes(1), 1);
        due("14 still", x.fault(0), 0);
        due("14 no berth", x.fault(1), BEYOND);
        due("14 no berth", x.fault(-1), BEYOND);
        AbreastQuay y = wide(1, 0);
        due("14 short", y.boat(0, 10, 0, false), 0);
        due("14 long", y.boat(0, 14, 0, false), 1);
        due("14 over", y.over(4), 0);
        due("14 comes", y.comes(0, 0), 0);
        due("14 comes", y.comes(1, 0), 1);
        due("14 right", y.fault(0), -1);
        due("14 over", y.over(3), 4);
        due("14 length", y.fault(0), 1);
        due("14 findings", x.told(7) + y.told(7), 2);
    }

    private static void promise15Pairs() {
        AbreastQuay x = wide(2, 4);
        int[][] hours = {{5, 8}, {8, 8}, {5, 5}, {9, 12}};
        for (int i = 0; i < 4; i++) {
            due("15 leaves", x.leaves(i, hours[i][0], hours[i][1]), 1);
            due("15 comes", x.comes(i, 0), i);
        }
        due("15 maybe: 0-1 0-3 1-3 2-3", x.pairs(0, false), 4);
        due("15 surely: 0-3 1-3 2-3", x.pairs(0, true), 3);
        due("15 none", x.pairs(1, false), 0);
        due("15 none", x.pairs(1, true), 0);
        due("15 no berth", x.pairs(2, false), BEYOND);
        due("15 no berth", x.pairs(-1, true), BEYOND);
    }

    private static void promise16Offer() {
        AbreastQuay x = wide(4, 7);
        due("16 nothing lies", x.offer(0), 0);
        due("16 comes", x.comes(0, 0), 0);
        due("16 fewest", x.offer(6), 1);
        due("16 comes", x.comes(1, 1), 0);
        due("16 comes", x.comes(2, 1), 1);
        due("16 comes", x.comes(3, 2), 0);
        due("16 comes", x.comes(4, 3), 0);
        due("16 of several the least", x.offer(6), 0);
        due("16 leaves", x.leaves(3, 20, 20), 1);
        due("16 leaves", x.leaves(6, 3, 20), 1);
        due("16 not below is no pair", x.offer(6), 2);
        due("16 leaves", x.leaves(6, 3, 21), 1);
        due("16 below is one", x.offer(6), 0);
        due("16 nothing changed", x.of(6, 7), -1);
        due("16 it lies", x.offer(4), STATE);
        due("16 no boat", x.offer(7), BEYOND);
        due("16 no boat", x.offer(-1), BEYOND);
        due("16 long", x.boat(0, 11, 0, false), 7);
        due("16 none such", x.offer(7), NONE);
        AbreastQuay y = wide(0, 1);
        due("16 no berths", y.offer(0), NONE);
        due("16 shallow", y.berth(0, 0, 1, 0), 0);
        due("16 not right", y.offer(0), NONE);
        due("16 deep", y.berth(10, 0, 1, 0), 1);
        due("16 right", y.offer(0), 1);
    }

    private static void promise17Plan() {
        AbreastQuay x = wide(0, 8);
        due("17 no berths", x.plan(1), NONE);
        due("17 none of none", x.plan(0), 0);
        due("17 berth", x.berth(10, 0, 3, 6), 0);
        due("17 berth", x.berth(10, 0, 3, 6), 1);
        due("17 three", x.plan(7), 1);
        due("17 six", x.plan(0b00111111), 6);
        due("17 any six", x.plan(0b11101101), 6);
        due("17 seven", x.plan(0b01111111), SIZE);
        due("17 others", x.plan(1 << 8), BEYOND);
        due("17 negative", x.plan(MIN), BEYOND);
        due("17 BEYOND before SIZE", x.plan(-1), BEYOND);
        due("17 hours", x.leaves(0, 23, 23), 1);
        due("17 an inner one that leaves late", x.plan(7), 0);
        due("17 comes", x.comes(7, 0), 0);
        due("17 others don't matter", x.plan(7), 0);
        due("17 nothing changed", x.told(2), 1);
        AbreastQuay y = wide(1, 2);
        due("17 a boat too many", y.boat(1, 5, 0, false), 2);
        due("17 cats", y.boat(1, 5, 0, false), 3);
        due("17 two cats at one berth", y.plan(0b1100), NONE);
        due("17 a cat outermost", y.plan(0b111), 3);
        due("17 no such", y.plan(0b10000), BEYOND);
    }

    private static void promise17PlanOrder() {
        AbreastQuay x = wide(2, 3);
        due("17 like ones", x.plan(0b011), 0);
        due("17 the least boat at the lesser berth", x.lies(0b011, 0, false), 0);
        due("17 the next one elsewhere", x.lies(0b011, 1, false), 1);
        due("17 leaves", x.leaves(0, 23, 23), 1);
        due("17 leaves", x.leaves(1, 23, 23), 1);
        due("17 no pairs at one berth", x.plan(0b011), 0);
        due("17 lesser berth", x.lies(0b011, 1, false), 0);
        due("17 lesser place for the least", x.lies(0b011, 0, true), 0);
        due("17 then the next", x.lies(0b011, 1, true), 1);
        due("17 leaves", x.leaves(0, 0, 0), 1);
        due("17 leaves", x.leaves(1, 0, 23), 1);
        due("17 the lesser place before the next boat's berth", x.lies(0b011, 0, true), 0);
        due("17 the next one elsewhere", x.lies(0b011, 1, false), 1);
        AbreastQuay y = wide(1, 2);
        due("17 leaves", y.leaves(0, 0, 0), 1);
        due("17 fewest before order", y.plan(0b011), 0);
        due("17 the least boat outside, if that saves a pair", y.lies(0b011, 0, true), 1);
        due("17 and the next one inside", y.lies(0b011, 1, true), 0);
    }

    private static void promise18Lies() {
        AbreastQuay six = wide(4, 6);
        int[] berths = {0, 0, 1, 1, 2, 3};
        int[] places = {0, 1, 0, 1, 0, 0};
        due("18 pairs", six.plan(0b111111), 2);
        for (int boat = 0; boat < 6; boat++) {
            due("18 berth of " + boat, six.lies(0b111111, boat, false), berths[boat]);
            due("18 place of " + boat, six.lies(0b111111, boat, true), places[boat]);
        }
        AbreastQuay x = wide(2, 8);
        due("18 berth", x.lies(0b101, 2, false), 1);
        due("18 place", x.lies(0b101, 2, true), 0);
        due("18 not in it", x.lies(0b101, 1, true), KIND);
        due("18 no such boat", x.lies(0b101, 8, true), KIND);
        due("18 no such boat", x.lies(0b101, -1, true), KIND);
        due("18 no such boat, 32 and 34", x.lies(0b101, 32, true) + x.lies(0b101, 34, false), 2 * KIND);
        due("18 set has others", x.lies(0b100000000, 8, true), BEYOND);
        due("18 SIZE before KIND", x.lies(0b11111110, 0, true), SIZE);
        due("18 BEYOND before KIND", x.lies(-1, 9, true), BEYOND);
        due("18 nothing changed", x.told(2), 0);
        AbreastQuay y = wide(0, 2);
        due("18 none", y.lies(1, 0, true), NONE);
        due("18 KIND before NONE", y.lies(1, 1, true), KIND);
        due("18 of none", y.lies(0, 0, true), KIND);
    }

    private static void promise19Lay() {
        AbreastQuay x = wide(2, 8);
        due("19 two from nowhere", x.lay(0b11), 0);
        due("19 berth 0", x.at(0, 0), 0);
        due("19 berth 1", x.at(1, 0), 1);
        due("19 again", x.lay(0b11), 0);
        due("19 one is gone, one stays", x.lay(0b01), 1);
        due("19 nowhere", x.of(1, 7), -1);
        due("19 nowhere", x.of(1, 8), -1);
        due("19 comes", x.comes(1, 0), 1);
        due("19 another berth", x.lay(0b11), 1);
        due("19 goes", x.goes(0), 0);
        due("19 goes", x.goes(1), 0);
        due("19 comes", x.comes(1, 0), 0);
        due("19 comes", x.comes(0, 0), 1);
        due("19 hours", x.leaves(0, 23, 23) + x.leaves(1, 23, 23), 2);
        due("19 other places", x.lay(0b11), 2);
        due("19 nobody was moved", x.told(6) + x.of(0, 10) + x.of(1, 10), 0);
        due("19 six", x.lay(0b111111), 0);
        due("19 seven", x.lay(0b1111111), SIZE);
        due("19 others", x.lay(-1), BEYOND);
        due("19 six lie", x.told(2), 6);
        due("19 none", x.lay(0), 6);
        due("19 none lie", x.told(2), 0);
        AbreastQuay y = wide(1, 2);
        due("19 too deep", y.boat(0, 1, 99, false), 2);
        due("19 comes", y.comes(1, 0), 0);
        due("19 no placing", y.lay(0b101), NONE);
        due("19 nothing changed", y.at(0, 0), 1);
    }

    private static void promise20Tide() {
        AbreastQuay x = wide(1, 1);
        due("20 all at first", x.tide(1 << 2), ALL);
        due("20 hour 24", x.tide(1 << 24), BEYOND);
        due("20 negative", x.tide(-1), BEYOND);
        due("20 comes", x.comes(0, 0), 0);
        due("20 no tide", x.run(2), 0);
        due("20 tide", x.run(1), 1);
        due("20 what it was", x.tide(0), 4);
        due("20 what it was", x.tide(ALL), 0);
    }

    private static void promise21Run() {
        AbreastQuay x = wide(1, 4);
        due("21 none", x.run(0), BEYOND);
        due("21 too many", x.run(25), BEYOND);
        due("21 negative", x.run(-1), BEYOND);
        due("21 extreme", x.run(MAX), BEYOND);
        due("21 hour", x.told(3), 0);
        for (int i = 0; i < 4; i++) {
            due("21 comes", x.comes(i, 0), i);
        }
        due("21 leaves", x.leaves(0, 3, 3) + x.leaves(1, 1, 1) + x.leaves(2, 1, 9) + x.leaves(3, 2, 2), 4);
        due("21 hour 0", x.run(1), 0);
        due("21 FIRST is above", x.of(0, 9), 0);
        due("21 crew", x.aboard(3, 1 << 5), ALL);
        due("21 hour 1: the outer crew is away", x.run(1), 0);
        due("21 late", x.of(1, 9) * 10 + x.of(2, 9), 11);
        due("21 not late yet", x.of(0, 9) + x.of(3, 9), 0);
        due("21 hours 2 to 4", x.run(3), 0);
        due("21 late", x.of(3, 9) * 10 + x.of(0, 9), 32);
        due("21 hour 5: all, from the outside", x.run(1), 4);
        due("21 none was moved", x.told(6), 0);
        due("21 hour", x.told(3), 6);
        due("21 to hour 23", x.run(17), 0);
        due("21 hour", x.told(3), 23);
        due("21 0 behind 23", x.run(1), 0);
        due("21 hour", x.told(3), 0);
        due("21 a day", x.run(24), 0);
        due("21 hour", x.told(3), 0);
        promise21WhoLeaves();
    }

    private static void promise21WhoLeaves() {
        AbreastQuay x = wide(2, 6);
        due("21 comes", x.comes(0, 0) + x.comes(1, 0) + x.comes(2, 0), 3);
        due("21 comes", x.comes(5, 1) + x.comes(4, 1), 1);
        due("21 leaves", x.leaves(2, 10, 10) + x.leaves(4, 11, 11), 2);
        due("21 fewest outside first: 1 and 5 have one, then 0", x.run(1), 3);
        due("21 moved", x.of(2, 10) * 10 + x.of(4, 10), 21);
        due("21 moved at 0 if it left before 1", x.of(1, 10), 0);
        due("21 places", x.of(2, 8) + x.of(4, 8), 0);
        due("21 LAST is not asked", x.run(9), 0);
        due("21 hour 10", x.run(1), 1);
        due("21 not late, it left", x.of(2, 9), 0);
        due("21 crew", x.aboard(4, 0), ALL);
        due("21 after LAST", x.run(2), 0);
        due("21 late", x.of(4, 9), 2);
        due("21 crew", x.aboard(4, ALL), 0);
        due("21 leaves after its LAST", x.run(1), 1);
        AbreastQuay y = wide(2, 2);
        due("21 comes", y.comes(1, 0) + y.comes(0, 1), 0);
        due("21 third", y.boat(0, 1, 0, false), 2);
        due("21 comes", y.comes(2, 0), 1);
        due("21 own crew away", y.aboard(2, 0), ALL);
        due("21 crew of one outside is away", y.run(1), 1);
        due("21 still there", y.at(0, 0) * 10 + y.at(0, 1), 12);
        due("21 late", y.of(1, 9) * 10 + y.of(2, 9), 11);
    }

    private static void promise22Could() {
        AbreastQuay x = wide(1, 4);
        due("22 comes", x.comes(0, 0) + x.comes(1, 0) + x.comes(2, 0), 3);
        due("22 two outside", x.could(0), 2);
        due("22 outermost", x.could(2), 0);
        due("22 FIRST and the tide not asked", x.leaves(0, 20, 21) + x.tide(0), 1 + ALL);
        due("22 all the same", x.could(0), 2);
        due("22 crew at hour 1 alone", x.aboard(1, 2), ALL);
        due("22 its crew", x.could(1), -1);
        due("22 one outside", x.could(0), -1);
        due("22 one inside", x.could(2), 0);
        due("22 run", x.run(1), 0);
        due("22 at hour 1", x.could(0), 2);
        due("22 nowhere", x.could(3), STATE);
        due("22 no boat", x.could(4), BEYOND);
        due("22 no boat", x.could(-1), BEYOND);
        due("22 nothing changed", x.told(2) * 10 + x.told(6), 30);
        due("22 -1 is no finding", x.told(7), 3);
    }

    private static void promise23Feed() {
        AbreastQuay x = new AbreastQuay();
        due("23 none", x.feed(0, 0), BEYOND);
        due("23 nine", x.feed(0, 9), BEYOND);
        due("23 negative", x.feed(0, -1), BEYOND);
        for (int i = 1; i <= 9; i++) {
            due("23 eight", x.feed(-1L, 8), 8 * i);
        }
        due("23 seven", x.feed(Long.MIN_VALUE, 7), 79);
        due("23 two more", x.feed(0, 2), FULL);
        due("23 BEYOND before FULL", x.feed(0, 9), BEYOND);
        due("23 one more", x.feed(0, 1), 80);
        due("23 full", x.feed(0, 1), FULL);
        due("23 tape", x.told(5), 80);
        due("23 text", x.text(), WRONG);
        due("23 again", x.feed(0, 3), 3);
        AbreastQuay y = new AbreastQuay();
        due("23 lowest first, higher ones not taken", y.feed(0x7878_3a31_3062L, 3), 3);
        due("23 next ones", y.feed(0x3b39_303aL, 4), 7);
        due("23 boat", y.boat(0, 1, 0, false), 0);
        due("23 text b01:09; is not what came, b01", y.text(), 1);
        due("23 due", y.due(0, 1), 9);
    }

    private static void promise24Text() {
        AbreastQuay x = new AbreastQuay();
        String right = "b01:23;";
        feedText(x, right);
        due("24 a row", x.text(), 1);
        due("24 tape", x.told(5), 0);
        String[] signs = {"bclr", "0123456789", "0123456789", ":", "0123456789", "0123456789", ";"};
        for (int place = 0; place < 7; place++) {
            for (int sign = 0; sign < 256; sign++) {
                String text = right.substring(0, place) + (char) sign + right.substring(place + 1);
                x = new AbreastQuay();
                feedText(x, text);
                boolean stands = signs[place].indexOf(sign) >= 0;
                due("24 sign " + sign + " at " + place, x.text(), stands ? 1 : WRONG - place);
            }
        }
        x = new AbreastQuay();
        for (int length = 1; length < 14; length++) {
            feedText(x, (right + right).substring(0, length));
            due("24 cut at " + length, x.text(), length == 7 ? 1 : WRONG - length);
            due("24 tape is empty", x.told(5), 0);
        }
        x = new AbreastQuay();
        feedText(x, right.repeat(8));
        due("24 eight rows", x.text(), 8);
        due("24 rows", x.told(4), 8);
        feedText(x, right.repeat(8) + "b");
        due("24 a ninth letter", x.text(), WRONG - 56);
        feedText(x, right.repeat(8) + "x");
        due("24 a ninth sign", x.text(), WRONG - 56);
        feedText(x, right.repeat(7) + "b01:2x;");
        due("24 the eighth row", x.text(), WRONG - 54);
        due("24 rows are unchanged", x.told(4), 8);
        feedText(x, "c00:00;r99:99;");
        due("24 in place of those", x.text(), 2);
        due("24 rows", x.told(4), 2);
        due("24 none", x.text(), 0);
        due("24 no rows", x.told(4), 0);
        due("24 findings", x.told(7), 3);
    }

    private static void promise25Due() {
        AbreastQuay x = new AbreastQuay();
        for (int kind = 0; kind < 4; kind++) {
            due("25 boat", x.boat(kind, 10, 0, false), kind);
        }
        due("25 no dues", x.due(0, 1), NONE);
        feedText(x, "r09:01;r10:02;c40:03;l10:04;b09:05;b10:06;b40:07;");
        due("25 text", x.text(), 7);
        due("25 boat", x.due(0, 1), 60);
        due("25 cat", x.due(1, 1), 30);
        due("25 club", x.due(2, 1), 40);
        due("25 rally", x.due(3, 1), 20);
        due("25 nights", x.due(0, 99), 5940);
        due("25 no nights", x.due(0, 0), 0);
        due("25 too many", x.due(0, 100), BEYOND);
        due("25 negative", x.due(0, -1), BEYOND);
        due("25 no boat", x.due(4, 1), BEYOND);
        due("25 no boat", x.due(-1, 1), BEYOND);
        due("25 long", x.boat(3, 40, 0, false), 4);
        due("25 a row above its kind", x.due(4, 2), 560);
        feedText(x, "l40:08;c40:09;");
        due("25 text", x.text(), 2);
        due("25 no row for a boat", x.due(0, 1), NONE);
        due("25 none, with no nights too", x.due(0, 0), NONE);
        due("25 a rally by its club's row", x.due(3, 1), 80);
        due("25 a cat", x.due(1, 1), 90);
        feedText(x, "r40:08;");
        due("25 text", x.text(), 1);
        due("25 a row under its kind is none", x.due(2, 1), NONE);
        feedText(x, "b40:99;");
        due("25 text", x.text(), 1);
        due("25 most", x.due(4, 99), 392040);
    }

    private static void promise26Sheet() {
        AbreastQuay x = new AbreastQuay();
        due("26 a sheet", x.sheet(0, 8, 8), 8);
        due("26 sixteen", x.sheet(1, 16, 3), 3);
        due("26 thirty-two", x.sheet(2, 32, 1), 1);
        due("26 no numbers", x.sheet(3, 8, 0), 0);
        due("26 is not MISSING", x.write(3, 0, 1), BEYOND);
        due("26 write", x.write(0, 7, 5), 0);
        due("26 wrong bits", x.sheet(0, 7, 2), BEYOND);
        due("26 wrong bits", x.sheet(0, -8, 2), BEYOND);
        due("26 wrong bits", x.sheet(0, 64, 2), BEYOND);
        due("26 bits before SIZE", x.sheet(0, 1, -1), BEYOND);
        due("26 SIZE", x.sheet(0, 8, -1), SIZE);
        due("26 SIZE", x.sheet(0, 32, MIN), SIZE);
        due("26 too many", x.sheet(0, 16, 9), BEYOND);
        due("26 too many", x.sheet(0, 16, MAX), BEYOND);
        due("26 no such sheet", x.sheet(4, 8, 1), BEYOND);
        due("26 no such sheet", x.sheet(-1, 8, -1), BEYOND);
        due("26 unchanged", x.write(0, 7, 6), 5);
        due("26 anew", x.sheet(0, 8, 8), 8);
        due("26 all 0", x.write(0, 7, 1), 0);
        due("26 missing", x.sheet(0, 0, 3), 0);
        due("26 it is", x.write(0, 0, 1), MISSING);
        due("26 missing again", x.sheet(0, 0, 0), 0);
        due("26 missing, n is the most", x.sheet(1, 0, 8), 0);
        due("26 it is", x.write(1, 0, 1), MISSING);
        promise26FindingsForAllBits();
    }

    /** Each n that is refused, for each bits that are allowed, at sheets of each bits, which stay as they are. */
    private static void promise26FindingsForAllBits() {
        int[] widths = {0, 8, 16, 32};
        for (int was : widths) {
            for (int bits : widths) {
                AbreastQuay x = new AbreastQuay();
                due("26 before", x.sheet(1, was, 2), was == 0 ? 0 : 2);
                due("26 a number before", x.write(1, 1, 77), was == 0 ? MISSING : 0);
                int findings = x.told(7);
                String call = "26 of " + was + " bits, now " + bits;
                due(call + ", below 0", x.sheet(1, bits, -1), SIZE);
                due(call + ", least", x.sheet(1, bits, MIN), SIZE);
                due(call + ", above 8", x.sheet(1, bits, 9), BEYOND);
                due(call + ", most", x.sheet(1, bits, MAX), BEYOND);
                due(call + ", no such sheet before SIZE", x.sheet(4, bits, -1), BEYOND);
                due(call + ", no such sheet before SIZE", x.sheet(-1, bits, -1), BEYOND);
                due(call + ", findings", x.told(7), findings + 6);
                due(call + ", unchanged", x.write(1, 1, 77), was == 0 ? MISSING : 77);
                due(call + ", as many", x.write(1, 2, 1), was == 0 ? MISSING : BEYOND);
                due(call + ", least that is right", x.sheet(1, bits, 0), 0);
                due(call + ", most that is right", x.sheet(1, bits, 8), bits == 0 ? 0 : 8);
                due(call + ", it is so", x.write(1, 7, 1), bits == 0 ? MISSING : 0);
            }
        }
    }

    private static void promise27Write() {
        AbreastQuay x = new AbreastQuay();
        due("27 sheets", x.sheet(0, 8, 2) + x.sheet(1, 16, 2) + x.sheet(2, 32, 2), 6);
        due("27 eight bits", x.write(0, 1, 0x12345), 0);
        due("27 lowest", x.write(0, 1, 127), 0x45);
        due("27 lowest", x.write(0, 1, 256), 127);
        due("27 lowest", x.write(0, 1, -1), 0);
        due("27 minus one", x.write(0, 1, 200), -1);
        due("27 a number of 8 bits", x.write(0, 1, 0), -56);
        due("27 sixteen bits", x.write(1, 0, 0x17fff), 0);
        due("27 lowest", x.write(1, 0, 0x8000), 0x7fff);
        due("27 a number of 16 bits", x.write(1, 0, 0), -32768);
        due("27 thirty-two bits", x.write(2, 0, MIN), 0);
        int before = x.told(7);
        due("27 all of them", x.write(2, 0, MAX), MIN);
        due("27 a low number is no finding", x.told(7), before);
        due("27 all of them", x.write(2, 0, 0), MAX);
        due("27 the other number", x.write(2, 1, 0), 0);
        due("27 no such number", x.write(0, 2, 1), BEYOND);
        due("27 no such number", x.write(0, -1, 1), BEYOND);
        due("27 no such number", x.write(0, MAX, 1), BEYOND);
        due("27 no such sheet", x.write(4, 0, 1), BEYOND);
        due("27 no such sheet", x.write(-1, 0, 1), BEYOND);
        due("27 MISSING before the number", x.write(3, 9, 1), MISSING);
    }

    private static void promise28Copy() {
        AbreastQuay x = new AbreastQuay();
        due("28 sheets", x.sheet(0, 8, 5) + x.sheet(1, 8, 3) + x.sheet(2, 16, 5), 13);
        for (int i = 0; i < 5; i++) {
            due("28 write", x.write(0, i, i + 1), 0);
        }
        due("28 to another", x.copy(0, 2, 1, 0, 3), 3);
        due("28 came", x.write(1, 0, 0) * 100 + x.write(1, 1, 0) * 10 + x.write(1, 2, 0), 345);
        due("28 one farther", x.copy(0, 0, 0, 1, 4), 4);
        int[] farther = {1, 1, 2, 3, 4};
        for (int i = 0; i < 5; i++) {
            due("28 as they all were", x.write(0, i, i + 1), farther[i]);
        }
        due("28 one nearer", x.copy(0, 1, 0, 0, 4), 4);
        int[] nearer = {2, 3, 4, 5, 5};
        for (int i = 0; i < 5; i++) {
            due("28 as they all were", x.write(0, i, 0), nearer[i]);
        }
        due("28 none, at the end", x.copy(0, 5, 1, 3, 0), 0);
        due("28 none, behind the end", x.copy(0, 6, 1, 0, 0), BEYOND);
        due("28 none, behind the end", x.copy(0, 0, 1, 4, 0), BEYOND);
        due("28 source has not so many", x.copy(1, 1, 0, 0, 3), BEYOND);
        due("28 target has not so many", x.copy(0, 0, 1, 1, 3), BEYOND);
        due("28 from", x.copy(0, -1, 1, 0, 1), BEYOND);
        due("28 to", x.copy(0, 0, 1, -1, 1), BEYOND);
        due("28 n", x.copy(0, 1, 1, 1, -1), BEYOND);
        due("28 a sum that wraps", x.copy(0, 1, 1, 0, MAX), BEYOND);
        due("28 a sum that wraps", x.copy(0, MAX, 1, 0, MAX), BEYOND);
        due("28 bits", x.copy(0, 0, 2, 0, 1), KIND);
        due("28 KIND before BEYOND", x.copy(0, -1, 2, 0, 1), KIND);
        due("28 MISSING", x.copy(0, 0, 3, 0, 0), MISSING);
        due("28 MISSING before KIND", x.copy(3, -1, 2, 0, 1), MISSING);
        due("28 no such sheet", x.copy(4, 0, 3, 0, 1), BEYOND);
        due("28 no such sheet", x.copy(3, 0, -1, 0, 1), BEYOND);
        due("28 none came", x.write(1, 0, 0), 0);
    }

    private static void promise29Read() {
        AbreastQuay x = wide(1, 8);
        due("29 sheet", x.sheet(0, 16, 4), 4);
        due("29 write", x.write(0, 0, 5) + x.write(0, 1, 2) + x.write(0, 2, 7) + x.write(0, 3, 2), 0);
        due("29 up to one that lies", x.read(0, 0), 3);
        due("29 row", x.at(0, 0) * 100 + x.at(0, 1) * 10 + x.at(0, 2), 527);
        due("29 that is no finding", x.told(7), 0);
        due("29 the first can't", x.read(0, 0), 0);
        due("29 no such boat", x.write(0, 0, 8) + x.write(0, 1, 0), 7);
        due("29 none comes behind it", x.read(0, 0), 0);
        due("29 nowhere", x.of(0, 7), -1);
        due("29 negative", x.write(0, 0, -1), 8);
        due("29 none comes", x.read(0, 0), 0);
        due("29 all", x.sheet(0, 8, 2) + x.write(0, 0, 6), 2);
        due("29 all come", x.read(0, 0), 2);
        due("29 the sheet stays", x.write(0, 0, 3), 6);
        due("29 write", x.write(0, 1, 4), 0);
        due("29 up to the last place", x.read(0, 0), 1);
        due("29 empty", x.sheet(1, 32, 0) + x.read(1, 0), 0);
        due("29 no such sheet", x.read(4, 0), BEYOND);
        due("29 no such sheet", x.read(-1, 0), BEYOND);
        due("29 no such berth", x.read(0, 1), BEYOND);
        due("29 no such berth, before MISSING", x.read(3, -1), BEYOND);
        due("29 MISSING", x.read(3, 0), MISSING);
    }

    private static void promise30Told() {
        AbreastQuay x = wide(2, 3);
        due("30 berths", x.told(0), 2);
        due("30 boats", x.told(1), 3);
        due("30 comes", x.comes(0, 0) + x.comes(1, 0), 1);
        due("30 lie", x.told(2), 2);
        due("30 goes", x.goes(0), 1);
        due("30 lie", x.told(2), 1);
        due("30 between", x.between(0, 0, 0), 1);
        due("30 moved", x.told(6), 2);
        due("30 leaves", x.leaves(1, 9, 9), 1);
        due("30 run", x.run(5), 1);
        due("30 moved by the day", x.told(6), 3);
        due("30 hour", x.told(3), 5);
        feedText(x, "b40:01;");
        due("30 tape", x.told(5), 7);
        due("30 text", x.text(), 1);
        due("30 rows", x.told(4), 1);
        due("30 tape", x.told(5), 0);
        due("30 findings", x.told(7), 0);
        due("30 another", x.told(8), BEYOND);
        due("30 that one, too", x.told(7), 1);
        due("30 another", x.told(-1), BEYOND);
        due("30 extreme", x.told(MIN), BEYOND);
        due("30 findings", x.told(7), 3);
        feedText(x, "x");
        due("30 wrong", x.text(), WRONG);
        due("30 is one", x.told(7), 4);
        promise30EveryActCounts();
    }

    private static void promise30EveryActCounts() {
        AbreastQuay x = wide(1, 2);
        int[] answers = {
            x.berth(-1, 0, 0, 0), x.boat(-1, 0, 0, false), x.leaves(-1, 0, 0), x.aboard(-1, 0), x.over(-1), x.as(-1, 0),
            x.of(-1, 0), x.at(-1, 0), x.may(-1, 0), x.comes(-1, 0), x.between(-1, 0, 0), x.goes(-1), x.goes(0),
            x.fault(-1), x.pairs(-1, true), x.offer(-1), x.plan(-1), x.lies(-1, 0, true), x.lies(0, 0, true), x.lay(-1),
            x.tide(-1), x.run(-1), x.could(-1), x.could(0), x.feed(0, 0), x.due(-1, 0), x.due(0, 0), x.sheet(-1, 0, 0),
            x.sheet(0, 8, -1), x.write(-1, 0, 0), x.write(0, 0, 0), x.copy(-1, 0, 0, 0, 0), x.copy(0, 0, 0, 0, 0),
            x.read(-1, 0), x.read(0, 0), x.told(-1), x.as(0, 1),
        };
        for (int answer : answers) {
            Check.holds("30 " + answer + " is a finding", answer < -1000000);
        }
        due("30 every act counts", x.told(7), answers.length);
        due("30 cats", x.boat(1, 1, 0, false) + x.boat(1, 1, 0, false), 5);
        int before = x.told(7);
        due("30 none", x.plan(12), NONE);
        due("30 none", x.lies(12, 2, true), NONE);
        due("30 none", x.lay(12), NONE);
        due("30 sheets", x.sheet(0, 8, 1) + x.sheet(1, 16, 1), 2);
        due("30 number", x.write(0, 1, 0), BEYOND);
        due("30 bits", x.copy(0, 0, 1, 0, 1), KIND);
        due("30 range", x.copy(0, 0, 0, 0, 2), BEYOND);
        due("30 those count", x.told(7), before + 6);
    }
}
