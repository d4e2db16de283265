import java.util.function.Supplier;

/** Boundary cases of promises 10 to 16: who lies where. */
public final class LyingEdgeTest extends Edges {
    public static void main(String[] args) {
        runAll(LyingEdgeTest.class);
    }

    /** One berth: boat 0 lies at the quay, boat 1 lies nowhere. */
    private static AbreastQuay two(int innerKind, int innerLength, int kind, int length) {
        AbreastQuay x = Given.wide(1, 0);
        due("inner one", x.boat(innerKind, innerLength, 0, false), 0);
        due("comer", x.boat(kind, length, 0, false), 1);
        due("inner one comes", x.comes(0, 0), 0);
        return x;
    }

    /** What each act that asks whether boat 1 would lie right outside of boat 0, alone at its berth, answers. */
    private static void lyingOutside(String what, Supplier<AbreastQuay> state, int why) {
        onlyTells(why, state, what + ": may", x -> x.may(1, 0));
        if (why == 0) {
            due(what + ": comes", state.get().comes(1, 0), 1);
            due(what + ": between", state.get().between(1, 0, 1), 0);
            onlyTells(0, state, what + ": offer", x -> x.offer(1));
        } else {
            refuses(why == 1 ? FULL : KIND, state, what + ": comes", x -> x.comes(1, 0));
            refuses(why == 1 ? FULL : KIND, state, what + ": between", x -> x.between(1, 0, 1));
            refuses(NONE, state, what + ": offer", x -> x.offer(1));
        }
    }

    // ---- promise 10: may, and what lying right is

    static void promise10PlaceIsBelowPlaces() {
        for (int places = 1; places <= 2; places++) {
            int p = places;
            lyingOutside("PLACES " + places, () -> {
                AbreastQuay x = Given.wide(0, 2);
                due("berth", x.berth(90, 0, p, 0), 0);
                due("comes", x.comes(0, 0), 0);
                return x;
            }, places == 1 ? 1 : 0);
        }
    }

    static void promise10DraughtIsNotAboveDepthAndFall() {
        for (int fall : new int[] {0, 1, 9}) {
            for (int more = -1; more <= 1; more++) {
                int draught = 30 + fall + more;
                lyingOutside("DRAUGHT " + draught + ", FALL " + fall, () -> {
                    AbreastQuay x = new AbreastQuay();
                    due("berth", x.berth(30, fall, 2, 0), 0);
                    due("inner one", x.boat(BOAT, 10, 30, false), 0);
                    due("comer", x.boat(BOAT, 10, draught, false), 1);
                    due("comes", x.comes(0, 0), 0);
                    return x;
                }, more > 0 ? 2 : 0);
            }
        }
    }

    static void promise10NoFallCountsAtTheQuay() {
        AbreastQuay x = new AbreastQuay();
        due("berth", x.berth(30, 9, 6, 0), 0);
        due("as deep", x.boat(BOAT, 10, 30, false), 0);
        due("deeper", x.boat(BOAT, 10, 31, false), 1);
        due("as deep may", x.may(0, 0), 0);
        due("deeper may not", x.may(1, 0), 2);
    }

    static void promise10TheDeepestAtTheDeepestPlace() {
        AbreastQuay x = new AbreastQuay();
        due("berth", x.berth(90, 9, 6, 0), 0);
        due("inner one", x.boat(BOAT, 10, 90, false), 0);
        due("deepest", x.boat(BOAT, 10, 99, false), 1);
        due("at the quay it may not", x.may(1, 0), 2);
        due("comes", x.comes(0, 0), 0);
        due("90 and 9", x.may(1, 0), 0);
    }

    static void promise10PowerIsAskedBelowReachAlone() {
        for (int reach = 0; reach <= 3; reach++) {
            for (boolean power : new boolean[] {false, true}) {
                int r = reach;
                lyingOutside("REACH " + reach + ", POWER " + power, () -> {
                    AbreastQuay x = new AbreastQuay();
                    due("berth", x.berth(30, 0, 2, r), 0);
                    due("inner one", x.boat(BOAT, 10, 0, false), 0);
                    due("comer", x.boat(BOAT, 10, 0, power), 1);
                    due("comes", x.comes(0, 0), 0);
                    return x;
                }, power && reach <= 1 ? 3 : 0);
            }
        }
    }

    static void promise10LengthIsNotAboveThatOfTheInnerOneAndOver() {
        for (int over : new int[] {0, 1, 19, 20}) {
            for (int more = -1; more <= 1; more++) {
                int length = 15 + over + more;
                lyingOutside("LENGTH " + length + ", OVER " + over, () -> {
                    AbreastQuay x = two(BOAT, 15, BOAT, length);
                    due("over", x.over(over), 0);
                    return x;
                }, more > 0 ? 5 : 0);
            }
        }
    }

    static void promise10TheShortestAndTheLongest() {
        lyingOutside("40 outside of 20 and OVER 20", () -> {
            AbreastQuay x = two(BOAT, 20, BOAT, 40);
            due("over", x.over(20), 0);
            return x;
        }, 0);
        lyingOutside("40 outside of 19 and OVER 20", () -> {
            AbreastQuay x = two(BOAT, 19, BOAT, 40);
            due("over", x.over(20), 0);
            return x;
        }, 5);
        lyingOutside("1 outside of 40", () -> two(BOAT, 40, BOAT, 1), 0);
        lyingOutside("40 outside of 40", () -> two(BOAT, 40, BOAT, 40), 0);
        lyingOutside("2 outside of 1", () -> two(BOAT, 1, BOAT, 2), 5);
    }

    static void promise10LengthIsAskedOfTheNextInsideAlone() {
        AbreastQuay x = Given.wide(1, 0);
        due("long", x.boat(BOAT, 40, 0, false), 0);
        due("short", x.boat(BOAT, 10, 0, false), 1);
        due("mid", x.boat(BOAT, 11, 0, false), 2);
        due("comes", x.comes(0, 0), 0);
        due("outside of the long one", x.may(2, 0), 0);
        due("comes", x.comes(1, 0), 1);
        due("outside of the short one", x.may(2, 0), 5);
    }

    static void promise10KindsOutsideOfKinds() {
        int[][] asLong = {{0, 0, 0, 6}, {4, 4, 4, 4}, {0, 0, 0, 6}, {0, 0, 0, 0}};
        int[][] longer = {{5, 5, 5, 5}, {4, 4, 4, 4}, {5, 5, 0, 6}, {5, 5, 0, 0}};
        for (int inner = 0; inner < 4; inner++) {
            for (int kind = 0; kind < 4; kind++) {
                int i = inner;
                int k = kind;
                lyingOutside(kind + " outside of " + inner, () -> two(i, 10, k, 10), asLong[inner][kind]);
                lyingOutside("a longer " + kind + " outside of " + inner, () -> two(i, 10, k, 11), longer[inner][kind]);
                lyingOutside("the longest " + kind + " outside of the shortest " + inner, () -> two(i, 1, k, 40), longer[inner][kind]);
            }
        }
    }

    static void promise10AtTheQuayNobodyIsInside() {
        for (int kind = 0; kind < 4; kind++) {
            AbreastQuay x = Given.wide(2, 0);
            due("a short CAT", x.boat(CAT, 1, 0, false), 0);
            due("a long one", x.boat(kind, 40, 0, true), 1);
            due("the CAT comes", x.comes(0, 0), 0);
            due("at the other BERTH", x.may(1, 1), 0);
            due("outside of the CAT", x.may(1, 0), 4);
            due("comes", x.comes(1, 1), 0);
        }
    }

    /** All 64 sets of reasons, each made to hold by one number alone. */
    static void promise10TheLeastNumberThatHolds() {
        for (int set = 0; set < 64; set++) {
            int reasons = set;
            int least = set == 0 ? 0 : Integer.numberOfTrailingZeros(set) + 1;
            lyingOutside("reasons " + Integer.toBinaryString(set), () -> withReasons(reasons), least);
        }
    }

    private static AbreastQuay withReasons(int set) {
        boolean noPlace = (set & 1) != 0;
        boolean tooDeep = (set & 2) != 0;
        boolean noPower = (set & 4) != 0;
        boolean isCat = (set & 8) != 0;
        boolean tooLong = (set & 16) != 0;
        boolean isRally = (set & 32) != 0;
        AbreastQuay x = new AbreastQuay();
        due("berth", x.berth(tooDeep ? 20 : 21, 3, noPlace ? 1 : 2, noPower ? 1 : 2), 0);
        due("inner one", x.boat(isCat ? CAT : BOAT, 10, 0, false), 0);
        due("comer", x.boat(isRally ? RALLY : BOAT, tooLong ? 13 : 12, 24, true), 1);
        due("over", x.over(2), 0);
        due("comes", x.comes(0, 0), 0);
        return x;
    }

    static void promise10StateBeforeAllReasons() {
        refuses(STATE, BUSY, "one that lies there, the BERTH being full", x -> x.may(2, 0));
        refuses(STATE, BUSY, "one that lies at another BERTH", x -> x.may(3, 0));
        refuses(STATE, BUSY, "one that would lie right", x -> x.may(3, 2));
        onlyTells(0, BUSY, "one that has left", x -> x.may(4, 2));
    }

    static void promise10NoSuchBoatOrBerth() {
        for (int boat : noneOf(Given.BUSY_BOATS)) {
            refuses(BEYOND, BUSY, "may(" + boat + ", 2)", x -> x.may(boat, 2));
        }
        for (int berth : noneOf(Given.BUSY_BERTHS)) {
            refuses(BEYOND, BUSY, "may(4, " + berth + ")", x -> x.may(4, berth));
            refuses(BEYOND, BUSY, "BEYOND before STATE, may(3, " + berth + ")", x -> x.may(3, berth));
        }
        refuses(BEYOND, CRAMMED, "a ninth BOAT", x -> x.may(8, 3));
        refuses(BEYOND, CRAMMED, "a fifth BERTH", x -> x.may(7, 4));
    }

    // ---- promise 11: comes

    static void promise11PlacesFrom0ToTheLast() {
        AbreastQuay x = Given.wide(1, 7);
        for (int i = 0; i < 6; i++) {
            due("comes(" + i + ", 0)", x.comes(i, 0), i);
            due("BERTH", x.of(i, 7), 0);
            due("place", x.of(i, 8), i);
            due("BOATS that lie", x.told(2), i + 1);
        }
        due("a seventh", x.comes(6, 0), FULL);
        due("nobody was moved", x.told(6), 0);
    }

    static void promise11FullBeforeKind() {
        refuses(FULL, BUSY, "no place, and too long", x -> x.comes(6, 0));
        refuses(FULL, CRAMMED, "no seventh place", x -> x.comes(7, 0));
        refuses(FULL, CRAMMED, "no second place, nor POWER", x -> x.comes(7, 1));
        refuses(KIND, CRAMMED, "places, but too deep", x -> x.comes(7, 2));
        due("places, and right", Given.crammed().comes(7, 3), 0);
    }

    static void promise11StateBeforeFull() {
        refuses(STATE, BUSY, "it lies there, the BERTH being full", x -> x.comes(2, 0));
        refuses(STATE, BUSY, "it lies elsewhere, that BERTH being full", x -> x.comes(3, 0));
        refuses(STATE, BUSY, "it lies elsewhere, and would lie right", x -> x.comes(3, 2));
        refuses(STATE, CRAMMED, "it lies at the quay", x -> x.comes(0, 3));
    }

    static void promise11NoSuchBoatOrBerth() {
        for (int boat : noneOf(Given.BUSY_BOATS)) {
            refuses(BEYOND, BUSY, "comes(" + boat + ", 2)", x -> x.comes(boat, 2));
        }
        for (int berth : noneOf(Given.BUSY_BERTHS)) {
            refuses(BEYOND, BUSY, "comes(4, " + berth + ")", x -> x.comes(4, berth));
            refuses(BEYOND, BUSY, "BEYOND before STATE, comes(3, " + berth + ")", x -> x.comes(3, berth));
        }
        refuses(BEYOND, CRAMMED, "a ninth BOAT", x -> x.comes(8, 0));
        refuses(BEYOND, CRAMMED, "a fifth BERTH", x -> x.comes(7, 4));
    }

    static void promise11OneThatLeftComesAgain() {
        AbreastQuay x = Given.row(6, 7);
        due("full", x.comes(6, 0), FULL);
        due("goes", x.goes(0), 5);
        due("the place that is free is the outermost", x.comes(6, 0), 5);
        due("full again", x.comes(0, 0), FULL);
    }

    // ---- promise 12: between

    static void promise12PlaceIs0ToHowManyLieThere() {
        for (int lying = 0; lying <= 5; lying++) {
            int l = lying;
            for (int place = 0; place <= lying; place++) {
                AbreastQuay x = Given.row(lying, 8);
                due("between(7, 0, " + place + ") of " + lying, x.between(7, 0, place), lying - place);
                due("it lies there", x.at(0, place), 7);
                for (int i = 0; i < lying; i++) {
                    due("place of " + i, x.of(i, 8), i < place ? i : i + 1);
                    due("how often " + i + " was moved", x.of(i, 10), i < place ? 0 : 1);
                }
                due("the comer was not moved", x.of(7, 10), 0);
                due("moved ever", x.told(6), lying - place);
            }
            for (int place : outside(0, lying)) {
                refuses(BEYOND, () -> Given.row(l, 8), "between(7, 0, " + place + ") of " + lying, x -> x.between(7, 0, place));
            }
        }
    }

    static void promise12NoPlaceForOneMore() {
        for (int place = 0; place <= 6; place++) {
            int p = place;
            refuses(FULL, () -> Given.row(6, 8), "between(7, 0, " + place + ") of six", x -> x.between(7, 0, p));
        }
        for (int place : outside(0, 6)) {
            refuses(BEYOND, () -> Given.row(6, 8), "between(7, 0, " + place + ") of six", x -> x.between(7, 0, place));
        }
        refuses(FULL, CRAMMED, "a BERTH of one place", x -> x.between(7, 1, 0));
        refuses(FULL, CRAMMED, "a BERTH of one place, outside", x -> x.between(7, 1, 1));
    }

    static void promise12FullBeforeKind() {
        refuses(FULL, BUSY, "no place, and it would not lie right", x -> x.between(6, 0, 1));
        refuses(FULL, BUSY, "no place, and too long for the outermost, a CAT", x -> x.between(6, 0, 3));
    }

    static void promise12StateBeforeFull() {
        refuses(STATE, BUSY, "it lies there, the BERTH being full", x -> x.between(2, 0, 0));
        refuses(STATE, BUSY, "it lies elsewhere, that BERTH being full", x -> x.between(3, 0, 3));
        refuses(STATE, BUSY, "it lies elsewhere, there is a place", x -> x.between(3, 2, 0));
    }

    static void promise12BeyondBeforeState() {
        refuses(BEYOND, BUSY, "one that lies, a place above", x -> x.between(3, 0, 4));
        refuses(BEYOND, BUSY, "one that lies, a place below", x -> x.between(3, 0, -1));
        refuses(BEYOND, BUSY, "one that lies, no such BERTH", x -> x.between(3, 3, 0));
        refuses(BEYOND, BUSY, "an empty BERTH, place 1", x -> x.between(4, 2, 1));
    }

    static void promise12NoSuchBoatOrBerth() {
        for (int boat : noneOf(Given.BUSY_BOATS)) {
            refuses(BEYOND, BUSY, "between(" + boat + ", 2, 0)", x -> x.between(boat, 2, 0));
        }
        for (int berth : noneOf(Given.BUSY_BERTHS)) {
            refuses(BEYOND, BUSY, "between(4, " + berth + ", 0)", x -> x.between(4, berth, 0));
        }
        refuses(BEYOND, CRAMMED, "a ninth BOAT", x -> x.between(8, 3, 0));
        refuses(BEYOND, CRAMMED, "a fifth BERTH", x -> x.between(7, 4, 0));
    }

    /** Two lie there: the comer's own numbers are at their limits, or one above. */
    static void promise12TheComerWouldNotLieRight() {
        answersBetween(2, "DRAUGHT", () -> inFrontOf(BOAT, 20, 30, false, 2), 0);
        answersBetween(KIND, "DRAUGHT", () -> inFrontOf(BOAT, 20, 31, false, 2), 0);
        answersBetween(2, "LENGTH at the quay", () -> inFrontOf(BOAT, 21, 0, false, 2), 0);
        answersBetween(1, "LENGTH at place 1", () -> inFrontOf(BOAT, 20, 0, false, 2), 1);
        answersBetween(KIND, "LENGTH at place 1", () -> inFrontOf(BOAT, 21, 0, false, 2), 1);
        answersBetween(2, "POWER at the quay", () -> inFrontOf(BOAT, 20, 0, true, 1), 0);
        answersBetween(KIND, "POWER at the quay", () -> inFrontOf(BOAT, 20, 0, true, 0), 0);
        answersBetween(1, "POWER at place 1", () -> inFrontOf(BOAT, 20, 0, true, 2), 1);
        answersBetween(KIND, "POWER at place 1", () -> inFrontOf(BOAT, 20, 0, true, 1), 1);
        answersBetween(2, "a RALLY at the quay", () -> inFrontOf(RALLY, 20, 0, false, 2), 0);
        answersBetween(KIND, "a RALLY at place 1", () -> inFrontOf(RALLY, 20, 0, false, 2), 1);
    }

    /** A berth where two boats of LENGTH 20 lie, and a comer, boat 2. */
    private static AbreastQuay inFrontOf(int kind, int length, int draught, boolean power, int reach) {
        AbreastQuay x = new AbreastQuay();
        due("berth", x.berth(30, 0, 6, reach), 0);
        due("inner one", x.boat(BOAT, 20, 0, false), 0);
        due("outer one", x.boat(BOAT, 20, 0, false), 1);
        due("comer", x.boat(kind, length, draught, power), 2);
        due("they come", x.comes(0, 0) * 10 + x.comes(1, 0), 1);
        return x;
    }

    private static void answersBetween(int answer, String what, Supplier<AbreastQuay> state, int place) {
        if (answer < 0) {
            refuses(answer, state, what, x -> x.between(2, 0, place));
        } else {
            due(what, state.get().between(2, 0, place), answer);
        }
    }

    /** One of those from there on: the next one, or one farther out. */
    static void promise12OneOfThoseFartherOutWouldNotLieRight() {
        for (int last = 0; last < 4; last++) {
            int l = last;
            refuses(KIND, () -> powered(l, l + 1), "POWER of place " + last + " would be beyond REACH", x -> x.between(5, 0, 0));
            due("POWER of place " + last + " stays in REACH", powered(l, l + 2).between(5, 0, 0), 4);
            due("POWER of place " + last + ", which lies inside", powered(l, l + 1).between(5, 0, l + 1), 3 - l);
        }
    }

    /** Four boats in a row, of which one wants POWER, and a comer, boat 5. */
    private static AbreastQuay powered(int which, int reach) {
        AbreastQuay x = new AbreastQuay();
        due("berth", x.berth(30, 0, 6, reach), 0);
        for (int i = 0; i < 6; i++) {
            due("boat", x.boat(BOAT, 20, 0, i == which), i);
        }
        for (int i = 0; i < 4; i++) {
            due("comes", x.comes(i, 0), i);
        }
        return x;
    }

    static void promise12TheNextOneOutsideOfTheComer() {
        refuses(KIND, () -> two(BOAT, 20, BOAT, 19), "it would be too long", x -> x.between(1, 0, 0));
        due("as long", two(BOAT, 20, BOAT, 20).between(1, 0, 0), 1);
        refuses(KIND, () -> two(BOAT, 20, CAT, 20), "outside of a CAT", x -> x.between(1, 0, 0));
        due("a CAT outermost", two(BOAT, 20, CAT, 20).between(1, 0, 1), 0);
        refuses(KIND, () -> two(RALLY, 20, CLUB, 20), "a RALLY outside of a CLUB boat", x -> x.between(1, 0, 0));
        due("a RALLY outside of a RALLY", two(RALLY, 20, RALLY, 1).between(1, 0, 0), 1);
        due("CLUB boats whatever the LENGTH", two(CLUB, 40, RALLY, 1).between(1, 0, 0), 1);
        refuses(KIND, () -> two(BOAT, 40, RALLY, 1), "not if one is no CLUB boat", x -> x.between(1, 0, 0));
    }

    /** 2 came outside of 1 by an OVER that was greater: it is asked anew, though 1 stays next inside of it. */
    static void promise12OneFartherOutThatLiesNotRightAsItIs() {
        for (int over = 9; over <= 10; over++) {
            int o = over;
            Supplier<AbreastQuay> state = () -> {
                AbreastQuay x = Given.wide(1, 0);
                int[] lengths = {10, 5, 15, 20};
                for (int i = 0; i < lengths.length; i++) {
                    due("boat", x.boat(BOAT, lengths[i], 0, false), i);
                }
                due("over", x.over(10), 0);
                due("they come", x.comes(0, 0) * 100 + x.comes(1, 0) * 10 + x.comes(2, 0), 12);
                due("over", x.over(o), 10);
                return x;
            };
            if (over == 9) {
                refuses(KIND, state, "15 outside of 5 and OVER 9", x -> x.between(3, 0, 0));
            } else {
                due("15 outside of 5 and OVER 10", state.get().between(3, 0, 0), 3);
            }
        }
    }

    /** At BERTH 1 two lie as far out as they may, and one outside of a shorter one: they stay where they are. */
    static void promise12OtherBerthsAreNotAsked() {
        AbreastQuay x = Given.wide(1, 2);
        due("berth", x.berth(90, 0, 2, 2), 1);
        due("POWER", x.boat(BOAT, 10, 0, true), 2);
        due("long, with POWER", x.boat(BOAT, 30, 0, true), 3);
        due("over", x.over(20), 0);
        due("they come", x.comes(0, 0) + x.comes(2, 1) + x.comes(3, 1), 1);
        due("over", x.over(0), 20);
        due("at BERTH 0", x.between(1, 0, 0), 1);
        due("at BERTH 1", x.at(1, 0) * 10 + x.at(1, 1), 23);
        due("none was moved there", x.of(2, 10) + x.of(3, 10), 0);
    }

    static void promise12OverIsAskedOfBothNeighbours() {
        for (int over = 0; over <= 2; over++) {
            AbreastQuay x = Given.wide(1, 0);
            due("inner one", x.boat(BOAT, 20, 0, false), 0);
            due("outer one", x.boat(BOAT, 20, 0, false), 1);
            due("longer", x.boat(BOAT, 21, 0, false), 2);
            due("shorter", x.boat(BOAT, 18, 0, false), 3);
            due("they come", x.comes(0, 0) * 10 + x.comes(1, 0), 1);
            due("over", x.over(over), 0);
            due("OVER " + over + ", a longer one", x.between(2, 0, 1), over >= 1 ? 1 : KIND);
            due("OVER " + over + ", a shorter one at the quay", x.between(3, 0, 0), over >= 2 ? 3 : KIND);
        }
    }

    // ---- promise 13: goes

    static void promise13HowManyWereMovedFromEachPlace() {
        for (int place = 0; place < 6; place++) {
            AbreastQuay x = Given.row(6, 6);
            due("goes(" + place + ")", x.goes(place), 5 - place);
            due("moved ever", x.told(6), 5 - place);
            due("BOATS that lie", x.told(2), 5);
            for (int i = 0; i < 6; i++) {
                due("place of " + i, x.of(i, 8), i == place ? -1 : i < place ? i : i - 1);
                due("how often " + i + " was moved", x.of(i, 10), i <= place ? 0 : 1);
            }
            due("the last place is free", x.at(0, 5), -1);
        }
    }

    static void promise13OneThatLiesAloneMovesNobody() {
        AbreastQuay x = Given.row(1, 1);
        due("goes", x.goes(0), 0);
        due("the BERTH is empty", x.at(0, 0), -1);
        due("none lies", x.told(2), 0);
    }

    static void promise13WhateverTheHourAndWhoeverIsAboard() {
        AbreastQuay x = Given.row(3, 3);
        for (int i = 0; i < 3; i++) {
            due("nobody aboard", x.aboard(i, 0), ALL_HOURS);
            due("leaves", x.leaves(i, 23, 23), 1);
        }
        due("no tide", x.tide(0), ALL_HOURS);
        due("goes", x.goes(0), 2);
    }

    static void promise13ItLiesNowhere() {
        refuses(STATE, BUSY, "one that has left", x -> x.goes(4));
        refuses(STATE, BUSY, "one that never came", x -> x.goes(6));
        refuses(STATE, () -> {
            AbreastQuay x = Given.row(2, 2);
            due("laid away", x.lay(1), 1);
            return x;
        }, "one that was laid away", x -> x.goes(1));
    }

    static void promise13NoSuchBoat() {
        for (int boat : noneOf(Given.BUSY_BOATS)) {
            refuses(BEYOND, BUSY, "goes(" + boat + ")", x -> x.goes(boat));
        }
        for (int boat : noneOf(8)) {
            refuses(BEYOND, CRAMMED, "goes(" + boat + ")", x -> x.goes(boat));
        }
    }

    static void promise13OtherBerthsStay() {
        AbreastQuay x = Given.busy();
        due("goes", x.goes(1), 2);
        due("at the other BERTH", x.at(1, 0) * 10 + x.at(1, 1), 53);
        due("not moved once more", x.of(3, 10) + x.of(5, 10), 2);
    }

    // ---- promise 14: fault

    static void promise14AllRightIsNoFinding() {
        onlyTells(-1, BUSY, "a BERTH where nothing lies", x -> x.fault(2));
        onlyTells(-1, BUSY, "a full one where all lie right", x -> x.fault(0));
        onlyTells(-1, CRAMMED, "six that lie right", x -> x.fault(0));
    }

    static void promise14TheFirstPlace() {
        onlyTells(0, BUSY, "the one at the quay", x -> x.fault(1));
        for (int first = 1; first < 6; first++) {
            AbreastQuay x = Given.wide(1, 0);
            for (int i = 0; i < 6; i++) {
                due("boat", x.boat(BOAT, i < first ? 10 : 20 + 5 * (i - first), 0, false), i);
            }
            due("over", x.over(10), 0);
            for (int i = 0; i < 6; i++) {
                due("comes", x.comes(i, 0), i);
            }
            due("as they came", x.fault(0), -1);
            due("over", x.over(4), 10);
            due("several do not lie right", x.fault(0), first);
        }
    }

    static void promise14DraughtAtTheLimitOfAPlace() {
        for (int more = 0; more <= 1; more++) {
            AbreastQuay x = new AbreastQuay();
            due("berth", x.berth(10, 4, 3, 0), 0);
            due("inner one", x.boat(BOAT, 10, 0, false), 0);
            due("next one", x.boat(BOAT, 10, 0, false), 1);
            due("outermost", x.boat(BOAT, 10, 14 + more, false), 2);
            due("they come", x.comes(0, 0) + x.comes(1, 0) + x.comes(2, 0), 3);
            due("right as they came", x.fault(0), -1);
            due("goes", x.goes(0), 2);
            due("one place nearer", x.fault(0), more == 0 ? -1 : 1);
        }
    }

    static void promise14LengthBesideANewNeighbour() {
        for (int more = 0; more <= 1; more++) {
            AbreastQuay x = Given.wide(1, 0);
            due("inner one", x.boat(BOAT, 10, 0, false), 0);
            due("between them", x.boat(BOAT, 12, 0, false), 1);
            due("outermost", x.boat(BOAT, 12 + more, 0, false), 2);
            due("over", x.over(2), 0);
            due("they come", x.comes(0, 0) + x.comes(1, 0) + x.comes(2, 0), 3);
            due("right as they came", x.fault(0), -1);
            due("goes", x.goes(1), 1);
            due("beside the inner one", x.fault(0), more == 0 ? -1 : 1);
        }
    }

    static void promise14ClubBoatsAreNotAskedForLength() {
        AbreastQuay x = Given.wide(1, 0);
        due("short", x.boat(CLUB, 1, 0, false), 0);
        due("long", x.boat(CLUB, 40, 0, false), 1);
        due("a BOAT", x.boat(BOAT, 21, 0, false), 2);
        due("over", x.over(20), 0);
        due("they come", x.comes(0, 0) + x.comes(1, 0) + x.comes(2, 0), 3);
        due("over", x.over(0), 20);
        due("right", x.fault(0), -1);
        due("goes", x.goes(1), 1);
        due("the BOAT is asked", x.fault(0), 1);
        due("over", x.over(20), 0);
        due("right again", x.fault(0), -1);
    }

    static void promise14NoSuchBerth() {
        for (int berth : noneOf(Given.BUSY_BERTHS)) {
            refuses(BEYOND, BUSY, "fault(" + berth + ")", x -> x.fault(berth));
        }
        for (int berth : noneOf(4)) {
            refuses(BEYOND, CRAMMED, "fault(" + berth + ")", x -> x.fault(berth));
        }
    }

    // ---- promise 15: pairs

    static void promise15MaybeIfFirstIsBelowLast() {
        for (int first = 0; first < 24; first++) {
            AbreastQuay x = Given.row(2, 2);
            due("the inner one", x.leaves(0, first, 23), 1);
            for (int last = 0; last < 24; last++) {
                due("the outer one", x.leaves(1, 0, last), 1);
                due("FIRST " + first + ", LAST " + last, x.pairs(0, false), first < last ? 1 : 0);
            }
        }
    }

    static void promise15SurelyIfLastIsBelowFirst() {
        for (int last = 0; last < 24; last++) {
            AbreastQuay x = Given.row(2, 2);
            due("the inner one", x.leaves(0, 0, last), 1);
            for (int first = 0; first < 24; first++) {
                due("the outer one", x.leaves(1, first, 23), 1);
                due("LAST " + last + ", FIRST " + first, x.pairs(0, true), last < first ? 1 : 0);
            }
        }
    }

    static void promise15WhichOfTheTwoLiesOutside() {
        AbreastQuay x = Given.row(2, 2);
        due("leaves early", x.leaves(0, 0, 0), 1);
        due("leaves late", x.leaves(1, 23, 23), 1);
        due("the early one inside: maybe", x.pairs(0, false), 1);
        due("the early one inside: surely", x.pairs(0, true), 1);
        due("goes", x.goes(0), 1);
        due("comes", x.comes(0, 0), 1);
        due("the late one inside: maybe", x.pairs(0, false), 0);
        due("the late one inside: surely", x.pairs(0, true), 0);
    }

    static void promise15NoneOneAndSix() {
        for (int lying = 0; lying <= 6; lying++) {
            int l = lying;
            int all = lying * (lying - 1) / 2;
            onlyTells(all, () -> Given.row(l, 6), lying + " in a row, maybe", x -> x.pairs(0, false));
            AbreastQuay x = Given.row(lying, 6);
            due("surely, by the hours at first", x.pairs(0, true), 0);
            for (int i = 0; i < lying; i++) {
                due("leaves", x.leaves(i, i, i), 1);
            }
            due(lying + " in a row, surely", x.pairs(0, true), all);
            due("maybe, too", x.pairs(0, false), all);
        }
    }

    static void promise15NotOnlyTheNextOne() {
        AbreastQuay x = Given.row(3, 3);
        due("leaves", x.leaves(0, 5, 5) + x.leaves(1, 9, 9) + x.leaves(2, 6, 6), 3);
        due("0 with 1 and 2", x.pairs(0, false), 2);
        due("leaves", x.leaves(1, 4, 5), 1);
        due("0 with 2, and 1 with 2", x.pairs(0, false), 2);
        due("0 with 2, and 1 with 2", x.pairs(0, true), 2);
    }

    static void promise15OneBerthAlone() {
        AbreastQuay x = Given.wide(2, 4);
        due("two and two", x.comes(0, 0) + x.comes(1, 0) + x.comes(2, 1) + x.comes(3, 1), 2);
        due("BERTH 0", x.pairs(0, false), 1);
        due("BERTH 1", x.pairs(1, false), 1);
    }

    static void promise15NoSuchBerth() {
        for (int berth : noneOf(Given.BUSY_BERTHS)) {
            refuses(BEYOND, BUSY, "pairs(" + berth + ", false)", x -> x.pairs(berth, false));
            refuses(BEYOND, BUSY, "pairs(" + berth + ", true)", x -> x.pairs(berth, true));
        }
        for (int berth : noneOf(4)) {
            refuses(BEYOND, CRAMMED, "pairs(" + berth + ", false)", x -> x.pairs(berth, false));
        }
    }

    // ---- promise 16: offer

    static void promise16FewestPairsMoreAtEachBerth() {
        for (int best = 0; best < 4; best++) {
            AbreastQuay x = Given.wide(4, 8);
            for (int i = 0; i < 4; i++) {
                due("leaves", x.leaves(i, i == best ? 10 : 9, 23), 1);
                due("comes", x.comes(i, i), 0);
            }
            due("the comer", x.leaves(7, 0, 10), 1);
            due("FIRST is not below LAST at BERTH " + best, x.offer(7), best);
            due("the comer", x.leaves(7, 0, 11), 1);
            due("all alike: the least", x.offer(7), 0);
            due("the comer", x.leaves(7, 0, 9), 1);
            due("none anywhere: the least", x.offer(7), 0);
        }
    }

    static void promise16PairsThatAreThereDoNotCount() {
        AbreastQuay x = Given.wide(2, 5);
        due("two at BERTH 0, a PAIR of their own", x.comes(0, 0) + x.comes(1, 0), 1);
        due("one at BERTH 1", x.comes(2, 1), 0);
        due("the comer leaves first of all", x.leaves(4, 0, 0), 1);
        due("no PAIRS more at BERTH 0", x.offer(4), 0);
        due("the comer leaves later", x.leaves(4, 0, 1), 1);
        due("two more there, one here", x.offer(4), 1);
    }

    static void promise16OnlyWhereItWouldLieRight() {
        AbreastQuay x = new AbreastQuay();
        due("too shallow", x.berth(9, 9, 6, 6), 0);
        due("one place", x.berth(10, 0, 1, 6), 1);
        due("out of REACH", x.berth(90, 0, 6, 1), 2);
        due("deep", x.berth(10, 0, 6, 6), 3);
        for (int i = 0; i < 5; i++) {
            due("boat", x.boat(BOAT, 10, 10, true), i);
        }
        due("the empty one that is deep enough", x.offer(0), 1);
        due("comes", x.comes(0, 1), 0);
        due("that one is full", x.offer(1), 2);
        due("comes", x.comes(1, 2), 0);
        due("place 1 is out of REACH", x.offer(2), 3);
        due("comes", x.comes(2, 3), 0);
        due("with a PAIR more", x.offer(3), 3);
    }

    static void promise16NoneSuch() {
        refuses(NONE, () -> Given.wide(0, 1), "no BERTHS", x -> x.offer(0));
        refuses(NONE, () -> Given.row(6, 7), "all full", x -> x.offer(6));
        refuses(NONE, BUSY, "too deep everywhere", x -> x.offer(6));
    }

    static void promise16StateAndNoSuchBoat() {
        refuses(STATE, BUSY, "one that lies", x -> x.offer(3));
        refuses(STATE, () -> Given.row(6, 6), "one that lies, all being full", x -> x.offer(5));
        for (int boat : noneOf(Given.BUSY_BOATS)) {
            refuses(BEYOND, BUSY, "offer(" + boat + ")", x -> x.offer(boat));
        }
        for (int boat : noneOf(8)) {
            refuses(BEYOND, CRAMMED, "offer(" + boat + ")", x -> x.offer(boat));
        }
        onlyTells(2, BUSY, "one that has left", x -> x.offer(4));
    }

    static void promise16FivePairsMoreAtTheLastPlace() {
        AbreastQuay x = Given.row(5, 8);
        due("five PAIRS more, at the last place", x.offer(7), 0);
        due("comes", x.comes(7, 0), 5);
        due("15 in all", x.pairs(0, false), 15);
    }
}
