import java.util.function.Supplier;

/** Boundary cases of promises 17 to 19: a set laid anew. */
public final class PlanEdgeTest extends Edges {
    public static void main(String[] args) {
        runAll(PlanEdgeTest.class);
    }

    /** plan(), lies() of the least boat and lay() refuse a set alike. */
    private static void allRefuse(int finding, Supplier<AbreastQuay> state, int set, int boat) {
        refuses(finding, state, "plan(" + set + ")", x -> x.plan(set));
        refuses(finding, state, "lies(" + set + ", " + boat + ", false)", x -> x.lies(set, boat, false));
        refuses(finding, state, "lies(" + set + ", " + boat + ", true)", x -> x.lies(set, boat, true));
        refuses(finding, state, "lay(" + set + ")", x -> x.lay(set));
    }

    /** Where THE PLACING has the boats of a set: tens are berths, ones are places. */
    private static void placed(String what, AbreastQuay x, int set, int pairs, int... spots) {
        due(what + ": plan", x.plan(set), pairs);
        for (int boat = 0, i = 0; boat < 8; boat++) {
            if ((set >> boat & 1) != 0) {
                due(what + ": BERTH of " + boat, x.lies(set, boat, false), spots[i] / 10);
                due(what + ": place of " + boat, x.lies(set, boat, true), spots[i] % 10);
                i++;
            }
        }
    }

    // ---- promise 17: plan

    static void promise17TheSetHasOthers() {
        for (int set : setsWithOthersThan(Given.BUSY_BOATS)) {
            allRefuse(BEYOND, BUSY, set, 0);
        }
        for (int set : setsWithOthersThan(8)) {
            allRefuse(BEYOND, CRAMMED, set, 7);
        }
        for (int boats = 1; boats <= 8; boats++) {
            int b = boats;
            due("the last BOAT", Given.wide(1, boats).plan(1 << boats - 1), 0);
            allRefuse(BEYOND, () -> Given.wide(1, b), 1 << b, b);
        }
    }

    static void promise17BeyondBeforeSize() {
        allRefuse(BEYOND, () -> Given.wide(4, 7), 0b11111111, 0);
        allRefuse(BEYOND, () -> Given.wide(4, 7), 0b10111111, 0);
        allRefuse(BEYOND, () -> Given.wide(4, 8), 0b111111111, 0);
    }

    static void promise17AtMostSix() {
        for (int set = 0; set < 256; set++) {
            AbreastQuay x = Given.wide(4, 8);
            int count = Integer.bitCount(set);
            int rest = Math.max(0, count - 4);
            due("plan(" + set + ")", x.plan(set), count > 6 ? SIZE : rest);
        }
        allRefuse(SIZE, () -> Given.wide(4, 8), 0b01111111, 0);
        allRefuse(SIZE, () -> Given.wide(4, 8), 0b11111110, 7);
        allRefuse(SIZE, () -> Given.wide(4, 8), 0b11111111, 0);
        allRefuse(SIZE, CRAMMED, 0b11111111, 0);
    }

    static void promise17SizeBeforeNone() {
        allRefuse(SIZE, () -> Given.wide(0, 7), 0b1111111, 0);
        allRefuse(NONE, () -> Given.wide(0, 7), 0b0111111, 0);
    }

    static void promise17TheEmptySet() {
        onlyTells(0, () -> Given.wide(0, 3), "without BERTHS", x -> x.plan(0));
        onlyTells(0, BUSY, "with those that lie", x -> x.plan(0));
    }

    static void promise17PlacesForAllOrNone() {
        for (int places = 1; places <= 6; places++) {
            int p = places;
            for (int boats = 1; boats <= 6; boats++) {
                int set = (1 << boats) - 1;
                if (boats > places) {
                    allRefuse(NONE, () -> oneBerth(p), set, 0);
                } else {
                    due(boats + " at " + places + " places", oneBerth(places).plan(set), boats * (boats - 1) / 2);
                }
            }
        }
    }

    private static AbreastQuay oneBerth(int places) {
        AbreastQuay x = Given.wide(0, 6);
        due("berth", x.berth(10, 0, places, 0), 0);
        return x;
    }

    static void promise17PlacesOfAllBerthsTogether() {
        for (int last = 1; last <= 2; last++) {
            AbreastQuay x = Given.wide(0, 6);
            due("berths", x.berth(10, 0, 1, 0) + x.berth(10, 0, 2, 0) + x.berth(10, 0, 1, 0) + x.berth(10, 0, last, 0), 6);
            due("five", x.plan(0b11111), 1);
            due("six", x.plan(0b111111), last == 1 ? NONE : 2);
        }
    }

    static void promise17DraughtOfEachPlace() {
        for (int more = 0; more <= 1; more++) {
            AbreastQuay x = new AbreastQuay();
            due("berth", x.berth(10, 3, 2, 0), 0);
            due("deep", x.boat(BOAT, 10, 13 + more, false), 0);
            due("flat", x.boat(BOAT, 10, 10, false), 1);
            due("alone the deep one does not lie right", x.plan(0b01), NONE);
            if (more == 0) {
                placed("the deep one outside", x, 0b11, 1, 1, 0);
            } else {
                due("too deep at place 1", x.plan(0b11), NONE);
            }
        }
    }

    static void promise17ReachOfEachPlace() {
        for (int reach = 0; reach <= 2; reach++) {
            AbreastQuay x = new AbreastQuay();
            due("berth", x.berth(10, 0, 2, reach), 0);
            due("no POWER", x.boat(BOAT, 10, 0, false), 0);
            due("POWER", x.boat(BOAT, 10, 0, true), 1);
            due("POWER", x.boat(BOAT, 10, 0, true), 2);
            due("one that wants POWER", x.plan(0b010), reach >= 1 ? 0 : NONE);
            due("two that want POWER", x.plan(0b110), reach >= 2 ? 1 : NONE);
            if (reach == 0) {
                due("one of two", x.plan(0b011), NONE);
            } else {
                placed("one of two, REACH " + reach, x, 0b011, 1, reach == 1 ? 1 : 0, reach == 1 ? 0 : 1);
            }
        }
    }

    static void promise17LengthAndOver() {
        for (int over = 0; over <= 2; over++) {
            AbreastQuay x = Given.wide(1, 0);
            due("short", x.boat(BOAT, 10, 0, false), 0);
            due("long", x.boat(BOAT, 12, 0, false), 1);
            due("over", x.over(over), 0);
            placed("OVER " + over, x, 0b11, 1, over < 2 ? 1 : 0, over < 2 ? 0 : 1);
        }
    }

    static void promise17Kinds() {
        int[][] whoIsInside = {{0, 0, 0, 1}, {1, -1, 1, 1}, {0, 0, 0, 1}, {0, 0, 0, 0}};
        for (int first = 0; first < 4; first++) {
            for (int second = 0; second < 4; second++) {
                AbreastQuay x = Given.wide(1, 0);
                due("first", x.boat(first, 10, 0, false), 0);
                due("second", x.boat(second, 10, 0, false), 1);
                int inside = whoIsInside[first][second];
                if (inside < 0) {
                    due("two CATS", x.plan(0b11), NONE);
                } else {
                    placed(first + " with " + second, x, 0b11, 1, inside, 1 - inside);
                }
            }
        }
    }

    static void promise17ClubBoatsWhateverTheLength() {
        AbreastQuay x = Given.wide(1, 0);
        due("the shortest", x.boat(CLUB, 1, 0, false), 0);
        due("the longest", x.boat(CLUB, 40, 0, false), 1);
        placed("the least BOAT inside", x, 0b11, 1, 0, 1);
    }

    static void promise17OthersThatLieDoNotCount() {
        onlyTells(0, () -> Given.row(6, 8), "the row is full of others", x -> x.plan(0b10000000));
        onlyTells(1, () -> Given.row(6, 8), "some that lie, some that do not", x -> x.plan(0b10000001));
        placed("one that lies elsewhere", Given.crammed(), 0b01000000, 0, 0);
    }

    /** Of two boats at one berth, one before the other: equal hours make no PAIR that moves. */
    static void promise17MaybeAtItsLimit() {
        AbreastQuay x = Given.wide(1, 2);
        due("leaves", x.leaves(0, 5, 9) + x.leaves(1, 9, 9), 2);
        placed("0 outside of 1: 9 is not below 9", x, 0b11, 0, 1, 0);
        due("leaves", x.leaves(1, 8, 9), 1);
        placed("8 is below 9: each is one, so the least inside", x, 0b11, 1, 0, 1);
        due("leaves", x.leaves(0, 9, 9), 1);
        placed("9 is not below 9: the least inside", x, 0b11, 0, 0, 1);
    }

    static void promise17FewestBeforeTheLesserBerth() {
        AbreastQuay x = new AbreastQuay();
        due("berth", x.berth(20, 0, 1, 0), 0);
        due("berth", x.berth(90, 0, 1, 0), 1);
        due("berth", x.berth(20, 0, 1, 0), 2);
        due("flat", x.boat(BOAT, 10, 20, false), 0);
        due("deep", x.boat(BOAT, 10, 21, false), 1);
        placed("the deep one has one BERTH", x, 0b11, 0, 0, 10);
        due("flat", x.boat(BOAT, 10, 20, false), 2);
        placed("the lesser BERTH for the lesser BOAT", x, 0b111, 0, 0, 10, 20);
    }

    static void promise17TheLesserBerthBeforeTheLesserPlace() {
        AbreastQuay x = new AbreastQuay();
        due("berths", x.berth(10, 9, 2, 0) + x.berth(90, 0, 2, 0), 1);
        due("deep", x.boat(BOAT, 10, 19, false), 0);
        due("flat", x.boat(BOAT, 10, 10, false), 1);
        due("no PAIR moves", x.leaves(0, 0, 0) + x.leaves(1, 23, 23), 2);
        placed("BERTH 0, place 1 before BERTH 1, place 0", x, 0b11, 0, 1, 0);
    }

    static void promise17TheLesserPlaceOfLikeBerths() {
        AbreastQuay x = Given.wide(1, 6);
        placed("six in a row, as they are numbered", x, 0b111111, 15, 0, 1, 2, 3, 4, 5);
        for (int i = 0; i < 6; i++) {
            due("no PAIR moves, whoever lies inside", x.leaves(i, 12, 12), 1);
        }
        placed("six in a row, no PAIR moves", x, 0b111111, 0, 0, 1, 2, 3, 4, 5);
    }

    static void promise17ThenTheNextBoat() {
        AbreastQuay x = Given.wide(2, 8);
        placed("the next one elsewhere", x, 0b10000010, 0, 0, 10);
        placed("three, of which two share a BERTH", x, 0b10010010, 1, 0, 1, 10);
        placed("four", x, 0b11010010, 2, 0, 1, 10, 11);
        placed("the greatest BOATS", x, 0b11111100, 6, 0, 1, 2, 10, 11, 12);
    }

    static void promise17TheLastHoursReverseARow() {
        AbreastQuay x = Given.wide(1, 6);
        for (int i = 0; i < 6; i++) {
            due("leaves", x.leaves(i, 3 * i, 3 * i), 1);
        }
        placed("the last to leave lies at the quay", x, 0b111111, 0, 5, 4, 3, 2, 1, 0);
    }

    /** What a plan found is not kept: the same set is asked again after each number that it hangs on has changed. */
    static void promise17ThePlacingIsFoundAnew() {
        AbreastQuay x = Given.wide(0, 0);
        due("short", x.boat(BOAT, 10, 0, false), 0);
        due("a short CAT", x.boat(CAT, 11, 0, false), 1);
        due("no BERTH", x.plan(0b11), NONE);
        due("berth", x.berth(90, 0, 2, 0), 0);
        due("the CAT is too long", x.plan(0b11), NONE);
        due("over", x.over(1), 0);
        placed("the CAT outside", x, 0b11, 1, 0, 1);
        due("over", x.over(0), 1);
        due("the CAT is too long again", x.plan(0b11), NONE);
        due("leaves", x.leaves(0, 9, 9) + x.leaves(1, 9, 9) + x.over(20), 2);
        placed("no PAIR moves", x, 0b11, 0, 0, 1);
        due("leaves", x.leaves(0, 8, 9), 1);
        placed("a PAIR moves maybe", x, 0b11, 1, 0, 1);
        due("berth", x.berth(90, 0, 1, 0), 1);
        placed("each at a BERTH", x, 0b11, 0, 0, 10);
        placed("one alone", x, 0b10, 0, 0);
        placed("both again", x, 0b11, 0, 0, 10);
    }

    static void promise17PlanChangesNothing() {
        onlyTells(0, BUSY, "1 outside of 0, and one at each other BERTH", x -> x.plan(0b0011011));
        onlyTells(15, () -> Given.row(6, 6), "a full row", x -> x.plan(0b111111));
    }

    // ---- promise 18: lies

    static void promise18KindBehindSizeAndBeforeNone() {
        for (int boat : new int[] {MIN, -1, 1, 7, 8, 31, 32, 64, MAX}) {
            refuses(KIND, () -> Given.wide(4, 8), "lies(0b101, " + boat + ")", x -> x.lies(0b101, boat, true));
            refuses(KIND, () -> Given.wide(0, 8), "KIND before NONE, " + boat, x -> x.lies(0b101, boat, false));
            refuses(BEYOND, () -> Given.wide(4, 8), "BEYOND before KIND, " + boat, x -> x.lies(1 << 8, boat, true));
            refuses(SIZE, () -> Given.wide(4, 8), "SIZE before KIND, " + boat, x -> x.lies(0b11111101, boat, true));
        }
    }

    static void promise18NobodyIsInTheEmptySet() {
        for (int boat = 0; boat < 8; boat++) {
            int b = boat;
            refuses(KIND, () -> Given.wide(1, 8), "lies(0, " + boat + ")", x -> x.lies(0, b, true));
        }
    }

    static void promise18NoPlacing() {
        refuses(NONE, () -> Given.wide(0, 8), "no BERTHS", x -> x.lies(0b10000000, 7, true));
        refuses(NONE, () -> oneBerth(1), "a place too few", x -> x.lies(0b11, 1, false));
    }

    static void promise18EachOfSix() {
        AbreastQuay x = Given.wide(4, 8);
        placed("the least six", x, 0b00111111, 2, 0, 1, 10, 11, 20, 30);
        placed("the greatest six", x, 0b11111100, 2, 0, 1, 10, 11, 20, 30);
        placed("with gaps", x, 0b11011011, 2, 0, 1, 10, 11, 20, 30);
    }

    static void promise18TellsThePlacingNotTheQuay() {
        AbreastQuay x = Given.wide(2, 2);
        due("they lie otherwise", x.comes(1, 0) + x.comes(0, 0), 1);
        placed("THE PLACING", x, 0b11, 0, 0, 10);
        onlyTells(1, BUSY, "lies of one that lies elsewhere", y -> y.lies(0b0001001, 3, false));
    }

    // ---- promise 19: lay

    static void promise19HowManyLieElsewhereOrNotAnyMore() {
        for (int lying = 0; lying <= 6; lying++) {
            AbreastQuay x = Given.row(lying, 6);
            due("all of them away", x.lay(0), lying);
            due("none lies", x.told(2), 0);
            due("none again", x.lay(0), 0);
            due("those that lay nowhere do not count", x.lay(0b111111), 0);
            due("all as they are", x.lay(0b111111), 0);
            due("six lie", x.told(2), 6);
        }
    }

    static void promise19AnotherPlaceAlone() {
        AbreastQuay x = Given.wide(1, 3);
        due("another order", x.comes(1, 0) * 100 + x.comes(0, 0) * 10 + x.comes(2, 0), 12);
        due("two change their places, one stays", x.lay(0b111), 2);
        due("the row", x.at(0, 0) * 100 + x.at(0, 1) * 10 + x.at(0, 2), 12);
    }

    static void promise19AnotherBerthAlone() {
        AbreastQuay x = Given.wide(2, 2);
        due("at the other BERTH, the same place", x.comes(0, 1), 0);
        due("one", x.lay(0b01), 1);
        due("BERTH 0", x.of(0, 7), 0);
        due("BERTH 1 is empty", x.at(1, 0), -1);
    }

    static void promise19OthersLieNowhere() {
        AbreastQuay x = Given.crammed();
        due("7 alone, which lay nowhere", x.lay(0b10000000), 7);
        due("it lies", x.of(7, 7) * 10 + x.of(7, 8), 0);
        for (int i = 0; i < 7; i++) {
            due("BERTH of " + i, x.of(i, 7), -1);
            due("place of " + i, x.of(i, 8), -1);
        }
        due("one lies", x.told(2), 1);
    }

    static void promise19NobodyWasMovedAndTheRestStays() {
        AbreastQuay x = Given.busy();
        int moved = x.told(6);
        due("laid anew", x.lay(0b0001000), 5);
        due("moved ever", x.told(6), moved);
        due("how often 3 was moved", x.of(3, 10), 1);
        due("HOURS LATE", x.of(3, 9), 2);
        due("THE HOUR", x.told(3), 4);
        due("FIRST and LAST", x.of(3, 4) * 100 + x.of(3, 5), 220);
    }

    static void promise19TheQuayIsAsThePlacingTells() {
        AbreastQuay told = Given.busy();
        AbreastQuay laid = Given.busy();
        int set = 0b0011011;
        int[] berths = new int[8];
        int[] places = new int[8];
        for (int boat = 0; boat < 8; boat++) {
            berths[boat] = (set >> boat & 1) == 0 ? -1 : told.lies(set, boat, false);
            places[boat] = (set >> boat & 1) == 0 ? -1 : told.lies(set, boat, true);
        }
        int pairs = told.plan(set);
        Check.holds("lay is no finding", laid.lay(set) >= 0);
        for (int boat = 0; boat < Given.BUSY_BOATS; boat++) {
            due("BERTH of " + boat, laid.of(boat, 7), berths[boat]);
            due("place of " + boat, laid.of(boat, 8), places[boat]);
        }
        due("PAIRS", laid.pairs(0, false) + laid.pairs(1, false) + laid.pairs(2, false), pairs);
        due("all lie right", laid.fault(0) + laid.fault(1) + laid.fault(2), -3);
    }

    static void promise19RefusedSetsChangeNothing() {
        refuses(BEYOND, BUSY, "others", x -> x.lay(1 << Given.BUSY_BOATS));
        refuses(SIZE, BUSY, "seven", x -> x.lay(0b1111111));
        refuses(NONE, BUSY, "one too deep", x -> x.lay(0b1000001));
        refuses(NONE, BUSY, "one too deep alone", x -> x.lay(0b1000000));
    }
}
