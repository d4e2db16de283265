/** Boundary cases of promises 1 to 9: the quay and its boats. */
public final class QuayEdgeTest extends Edges {
    public static void main(String[] args) {
        runAll(QuayEdgeTest.class);
    }

    // ---- promise 1: a new object

    static void promise1NoBerths() {
        due("told(0)", new AbreastQuay().told(0), 0);
        for (int berth : noneOf(0)) {
            refuses(BEYOND, NEW, "at(" + berth + ", 0)", x -> x.at(berth, 0));
            refuses(BEYOND, NEW, "fault(" + berth + ")", x -> x.fault(berth));
            refuses(BEYOND, NEW, "pairs(" + berth + ")", x -> x.pairs(berth, false));
            refuses(BEYOND, NEW, "read(0, " + berth + ")", x -> x.read(0, berth));
            refuses(BEYOND, () -> Given.wide(0, 1), "may(0, " + berth + ")", x -> x.may(0, berth));
            refuses(BEYOND, () -> Given.wide(0, 1), "comes(0, " + berth + ")", x -> x.comes(0, berth));
            refuses(BEYOND, () -> Given.wide(0, 1), "between(0, " + berth + ", 0)", x -> x.between(0, berth, 0));
        }
    }

    static void promise1NoBoats() {
        due("told(1)", new AbreastQuay().told(1), 0);
        due("told(2)", new AbreastQuay().told(2), 0);
        for (int boat : noneOf(0)) {
            refuses(BEYOND, NEW, "of(" + boat + ", 0)", x -> x.of(boat, 0));
            refuses(BEYOND, NEW, "leaves(" + boat + ", 0, 23)", x -> x.leaves(boat, 0, 23));
            refuses(BEYOND, NEW, "aboard(" + boat + ", 0)", x -> x.aboard(boat, 0));
            refuses(BEYOND, NEW, "as(" + boat + ", 0)", x -> x.as(boat, 0));
            refuses(BEYOND, NEW, "goes(" + boat + ")", x -> x.goes(boat));
            refuses(BEYOND, NEW, "offer(" + boat + ")", x -> x.offer(boat));
            refuses(BEYOND, NEW, "could(" + boat + ")", x -> x.could(boat));
            refuses(BEYOND, NEW, "due(" + boat + ", 1)", x -> x.due(boat, 1));
            refuses(BEYOND, () -> Given.wide(1, 0), "may(" + boat + ", 0)", x -> x.may(boat, 0));
            refuses(BEYOND, () -> Given.wide(1, 0), "comes(" + boat + ", 0)", x -> x.comes(boat, 0));
            refuses(BEYOND, () -> Given.wide(1, 0), "between(" + boat + ", 0, 0)", x -> x.between(boat, 0, 0));
        }
    }

    static void promise1NoBoatsToLayAnew() {
        for (int set : setsWithOthersThan(0)) {
            refuses(BEYOND, NEW, "plan(" + set + ")", x -> x.plan(set));
            refuses(BEYOND, NEW, "lies(" + set + ", 0)", x -> x.lies(set, 0, false));
            refuses(BEYOND, NEW, "lay(" + set + ")", x -> x.lay(set));
        }
        onlyTells(0, NEW, "plan of none", x -> x.plan(0));
        onlyTells(0, NEW, "lay of none", x -> x.lay(0));
    }

    static void promise1NoDues() {
        due("told(4)", new AbreastQuay().told(4), 0);
        refuses(NONE, () -> Given.wide(0, 1), "due(0, 1)", x -> x.due(0, 1));
    }

    static void promise1AnEmptyTape() {
        AbreastQuay x = new AbreastQuay();
        due("told(5)", x.told(5), 0);
        due("text()", x.text(), 0);
        due("the first byte", x.feed('b', 1), 1);
    }

    static void promise1SheetsAreMissing() {
        for (int s = 0; s < 4; s++) {
            int sheet = s;
            refuses(MISSING, NEW, "write(" + s + ", 0, 1)", x -> x.write(sheet, 0, 1));
            refuses(MISSING, () -> Given.wide(1, 1), "read(" + s + ", 0)", x -> x.read(sheet, 0));
            for (int t = 0; t < 4; t++) {
                int other = t;
                refuses(MISSING, NEW, "copy(" + s + ", 0, " + t + ", 0, 0)", x -> x.copy(sheet, 0, other, 0, 0));
            }
        }
    }

    static void promise1HoursAndCountsAtFirst() {
        AbreastQuay x = new AbreastQuay();
        due("THE HOUR", x.told(3), 0);
        due("moved ever", x.told(6), 0);
        due("findings", x.told(7), 0);
        due("OVER", x.over(0), 0);
        due("TIDE", x.tide(ALL_HOURS), ALL_HOURS);
    }

    static void promise1ObjectsStandAlone() {
        AbreastQuay first = Given.busy();
        AbreastQuay second = new AbreastQuay();
        Check.holds("a new one is as new beside a busy one",
            Given.everythingOf(second).equals(Given.everythingOf(new AbreastQuay())));
        Check.holds("a busy one is as it was", Given.everythingOf(first).equals(Given.everythingOf(Given.busy())));
    }

    // ---- promise 2: berth

    static void promise2DepthIs0To90() {
        for (int depth : new int[] {0, 1, 89, 90}) {
            AbreastQuay x = new AbreastQuay();
            due("DEPTH " + depth, x.berth(depth, 0, 1, 0), 0);
            due("as deep", x.boat(BOAT, 1, depth, false), 0);
            due("deeper", x.boat(BOAT, 1, depth + 1, false), 1);
            due("it lies right", x.may(0, 0), 0);
            due("it does not", x.may(1, 0), 2);
        }
        for (int depth : outside(0, 90)) {
            refuses(BEYOND, NEW, "DEPTH " + depth, x -> x.berth(depth, 0, 1, 0));
            refuses(BEYOND, BUSY, "DEPTH " + depth, x -> x.berth(depth, 9, 6, 6));
        }
    }

    static void promise2FallIs0To9() {
        for (int fall : new int[] {0, 1, 8, 9}) {
            AbreastQuay x = new AbreastQuay();
            due("FALL " + fall, x.berth(40, fall, 6, 0), 0);
            for (int i = 0; i < 5; i++) {
                due("boat", x.boat(BOAT, 1, 0, false), i);
                due("comes", x.comes(i, 0), i);
            }
            due("as deep", x.boat(BOAT, 1, 40 + 5 * fall, false), 5);
            due("deeper", x.boat(BOAT, 1, 41 + 5 * fall, false), 6);
            due("it lies right", x.may(5, 0), 0);
            due("it does not", x.may(6, 0), 2);
        }
        for (int fall : outside(0, 9)) {
            refuses(BEYOND, NEW, "FALL " + fall, x -> x.berth(0, fall, 1, 0));
            refuses(BEYOND, BUSY, "FALL " + fall, x -> x.berth(90, fall, 6, 6));
        }
    }

    static void promise2PlacesAre1To6() {
        for (int places = 1; places <= 6; places++) {
            AbreastQuay x = Given.wide(0, 8);
            due("PLACES " + places, x.berth(90, 0, places, 0), 0);
            for (int i = 0; i < places; i++) {
                due("comes", x.comes(i, 0), i);
            }
            due("one more may not", x.may(places, 0), 1);
            due("one more", x.comes(places, 0), FULL);
        }
        for (int places : outside(1, 6)) {
            refuses(BEYOND, NEW, "PLACES " + places, x -> x.berth(0, 0, places, 0));
            refuses(BEYOND, BUSY, "PLACES " + places, x -> x.berth(90, 9, places, 6));
        }
    }

    static void promise2ReachIs0To6() {
        for (int reach = 0; reach <= 6; reach++) {
            AbreastQuay x = Given.wide(0, 6);
            due("REACH " + reach, x.berth(90, 0, 6, reach), 0);
            due("one that wants POWER", x.boat(BOAT, 1, 0, true), 6);
            for (int place = 0; place < 6; place++) {
                due("REACH " + reach + ", place " + place, x.may(6, 0), place < reach ? 0 : 3);
                due("comes", x.comes(place, 0), place);
            }
        }
        for (int reach : outside(0, 6)) {
            refuses(BEYOND, NEW, "REACH " + reach, x -> x.berth(0, 0, 1, reach));
            refuses(BEYOND, BUSY, "REACH " + reach, x -> x.berth(90, 9, 6, reach));
        }
    }

    static void promise2NumbersGoFrom0To3() {
        AbreastQuay x = new AbreastQuay();
        for (int i = 0; i < 4; i++) {
            due("told(0)", x.told(0), i);
            due("no such BERTH yet", x.fault(i), BEYOND);
            due("a new BERTH", x.berth(0, 0, 1, 0), i);
            due("nothing lies there", x.fault(i), -1);
        }
        due("told(0)", x.told(0), 4);
    }

    static void promise2AFifthIsFull() {
        refuses(FULL, CRAMMED, "a fifth BERTH, the least", x -> x.berth(0, 0, 1, 0));
        refuses(FULL, CRAMMED, "a fifth BERTH, the greatest", x -> x.berth(90, 9, 6, 6));
    }

    static void promise2BeyondIsAskedBeforeFull() {
        refuses(BEYOND, CRAMMED, "DEPTH of a fifth", x -> x.berth(91, 0, 1, 0));
        refuses(BEYOND, CRAMMED, "FALL of a fifth", x -> x.berth(0, 10, 1, 0));
        refuses(BEYOND, CRAMMED, "PLACES of a fifth", x -> x.berth(0, 0, 0, 0));
        refuses(BEYOND, CRAMMED, "REACH of a fifth", x -> x.berth(0, 0, 1, 7));
    }

    static void promise2ARefusedOneTakesNoNumber() {
        AbreastQuay x = new AbreastQuay();
        due("a first one", x.berth(0, 0, 1, 0), 0);
        due("refused", x.berth(-1, 0, 1, 0), BEYOND);
        due("the next one", x.berth(0, 0, 1, 0), 1);
    }

    // ---- promise 3: boat

    static void promise3KindIs0To3() {
        for (int kind = 0; kind <= 3; kind++) {
            AbreastQuay x = new AbreastQuay();
            due("kind " + kind, x.boat(kind, 1, 0, false), 0);
            due("its kind", x.of(0, 0), kind);
        }
        for (int kind : outside(0, 3)) {
            refuses(BEYOND, NEW, "kind " + kind, x -> x.boat(kind, 1, 0, false));
            refuses(BEYOND, BUSY, "kind " + kind, x -> x.boat(kind, 40, 99, true));
        }
    }

    static void promise3LengthIs1To40() {
        for (int length : new int[] {1, 2, 39, 40}) {
            AbreastQuay x = new AbreastQuay();
            due("LENGTH " + length, x.boat(BOAT, length, 0, false), 0);
            due("its LENGTH", x.of(0, 1), length);
        }
        for (int length : outside(1, 40)) {
            refuses(BEYOND, NEW, "LENGTH " + length, x -> x.boat(BOAT, length, 0, false));
            refuses(BEYOND, BUSY, "LENGTH " + length, x -> x.boat(RALLY, length, 99, true));
        }
    }

    static void promise3DraughtIs0To99() {
        for (int draught : new int[] {0, 1, 98, 99}) {
            AbreastQuay x = new AbreastQuay();
            due("DRAUGHT " + draught, x.boat(BOAT, 1, draught, false), 0);
            due("its DRAUGHT", x.of(0, 2), draught);
        }
        for (int draught : outside(0, 99)) {
            refuses(BEYOND, NEW, "DRAUGHT " + draught, x -> x.boat(BOAT, 1, draught, false));
            refuses(BEYOND, BUSY, "DRAUGHT " + draught, x -> x.boat(RALLY, 40, draught, true));
        }
    }

    static void promise3NumbersGoFrom0To7() {
        AbreastQuay x = new AbreastQuay();
        for (int i = 0; i < 8; i++) {
            due("told(1)", x.told(1), i);
            due("no such BOAT yet", x.of(i, 7), BEYOND);
            due("a new BOAT", x.boat(BOAT, 1, 0, false), i);
            due("it lies nowhere", x.of(i, 7), -1);
        }
        due("told(1)", x.told(1), 8);
        due("none lies", x.told(2), 0);
    }

    static void promise3ANewBoatAsAtFirst() {
        for (boolean power : new boolean[] {false, true}) {
            AbreastQuay x = Given.busy();
            due("a new BOAT", x.boat(CLUB, 7, 8, power), Given.BUSY_BOATS);
            int[] first = {CLUB, 7, 8, power ? 1 : 0, 0, 23, ALL_HOURS, -1, -1, 0, 0};
            for (int what = 0; what < first.length; what++) {
                due("of(7, " + what + ")", x.of(Given.BUSY_BOATS, what), first[what]);
            }
        }
    }

    static void promise3ANinthIsFull() {
        refuses(FULL, CRAMMED, "a ninth BOAT, the least", x -> x.boat(BOAT, 1, 0, false));
        refuses(FULL, CRAMMED, "a ninth BOAT, the greatest", x -> x.boat(RALLY, 40, 99, true));
    }

    static void promise3BeyondIsAskedBeforeFull() {
        refuses(BEYOND, CRAMMED, "kind of a ninth", x -> x.boat(4, 1, 0, false));
        refuses(BEYOND, CRAMMED, "LENGTH of a ninth", x -> x.boat(BOAT, 0, 0, false));
        refuses(BEYOND, CRAMMED, "DRAUGHT of a ninth", x -> x.boat(BOAT, 1, 100, false));
    }

    static void promise3ARefusedOneTakesNoNumber() {
        AbreastQuay x = new AbreastQuay();
        due("a first one", x.boat(BOAT, 1, 0, false), 0);
        due("refused", x.boat(BOAT, 41, 0, false), BEYOND);
        due("the next one", x.boat(BOAT, 1, 0, false), 1);
    }

    // ---- promise 4: leaves

    static void promise4FirstAndLastAreHoursAndFirstIsNotAboveLast() {
        for (int first = -1; first <= 24; first++) {
            AbreastQuay x = Given.wide(0, 1);
            int wasFirst = 0;
            int wasLast = 23;
            for (int last = -1; last <= 24; last++) {
                boolean right = first >= 0 && last <= 23 && first <= last;
                due("leaves(0, " + first + ", " + last + ")", x.leaves(0, first, last), right ? 1 : BEYOND);
                wasFirst = right ? first : wasFirst;
                wasLast = right ? last : wasLast;
                due("FIRST", x.of(0, 4), wasFirst);
                due("LAST", x.of(0, 5), wasLast);
            }
        }
    }

    static void promise4RefusedHours() {
        int[][] wrong = {
            {-1, 0}, {-1, -1}, {0, -1}, {0, 24}, {23, 24}, {24, 24}, {24, 23}, {1, 0}, {23, 22}, {23, 0},
            {MIN, 0}, {MIN, MIN}, {0, MIN}, {0, MAX}, {MAX, MAX}, {MAX, 0}, {MIN, MAX}, {MAX, MIN},
        };
        for (int[] w : wrong) {
            refuses(BEYOND, BUSY, "leaves(3, " + w[0] + ", " + w[1] + ")", x -> x.leaves(3, w[0], w[1]));
        }
    }

    static void promise4NoSuchBoat() {
        for (int boat : noneOf(Given.BUSY_BOATS)) {
            refuses(BEYOND, BUSY, "leaves(" + boat + ", 1, 2)", x -> x.leaves(boat, 1, 2));
        }
        for (int boat : noneOf(8)) {
            refuses(BEYOND, CRAMMED, "leaves(" + boat + ", 1, 2)", x -> x.leaves(boat, 1, 2));
        }
    }

    // ---- promise 5: aboard

    static void promise5EachOf24HoursAndNoneAndAll() {
        AbreastQuay x = Given.wide(0, 1);
        due("all, at first; none now", x.aboard(0, 0), ALL_HOURS);
        int was = 0;
        for (int hour = 0; hour < 24; hour++) {
            due("hour " + hour, x.aboard(0, 1 << hour), was);
            was = 1 << hour;
            due("HOURS ABOARD", x.of(0, 6), was);
        }
        due("all", x.aboard(0, ALL_HOURS), was);
        due("they were all", x.aboard(0, 1), ALL_HOURS);
    }

    static void promise5OtherHours() {
        for (int hours : setsWithOthersThan(24)) {
            refuses(BEYOND, BUSY, "aboard(5, " + hours + ")", x -> x.aboard(5, hours));
        }
    }

    static void promise5NoSuchBoat() {
        for (int boat : noneOf(Given.BUSY_BOATS)) {
            refuses(BEYOND, BUSY, "aboard(" + boat + ", 1)", x -> x.aboard(boat, 1));
        }
        for (int boat : noneOf(8)) {
            refuses(BEYOND, CRAMMED, "aboard(" + boat + ", 1)", x -> x.aboard(boat, 1));
        }
    }

    // ---- promise 6: over

    static void promise6OverIs0To20() {
        AbreastQuay x = new AbreastQuay();
        int was = 0;
        for (int v = 0; v <= 20; v++) {
            due("over(" + v + ")", x.over(v), was);
            was = v;
        }
        due("the greatest again", x.over(20), 20);
        due("the least again", x.over(0), 20);
        for (int v : outside(0, 20)) {
            refuses(BEYOND, NEW, "over(" + v + ")", y -> y.over(v));
            refuses(BEYOND, BUSY, "over(" + v + ")", y -> y.over(v));
        }
    }

    static void promise6WhatItWasIsNotTheRefusedOne() {
        AbreastQuay x = new AbreastQuay();
        due("greatest", x.over(20), 0);
        due("one above", x.over(21), BEYOND);
        due("one below the least", x.over(-1), BEYOND);
        due("what it was", x.over(1), 20);
    }

    // ---- promise 7: as

    static void promise7KindsAndThoseUnderThem() {
        boolean[][] isOne = {
            {true, false, false, false}, {true, true, false, false}, {true, false, true, false}, {true, false, true, true},
        };
        for (int kind = 0; kind < 4; kind++) {
            for (int asked = 0; asked < 4; asked++) {
                int own = kind;
                int as = asked;
                String call = "kind " + kind + " as " + asked;
                if (isOne[kind][asked]) {
                    onlyTells(1, () -> secondOfKind(own), call, x -> x.as(1, as));
                } else {
                    refuses(KIND, () -> secondOfKind(own), call, x -> x.as(1, as));
                }
            }
        }
    }

    private static AbreastQuay secondOfKind(int kind) {
        AbreastQuay x = Given.wide(1, 1);
        due("second", x.boat(kind, 3, 4, true), 1);
        return x;
    }

    static void promise7KindIs0To3() {
        for (int kind : outside(0, 3)) {
            for (int boat = 0; boat < Given.BUSY_BOATS; boat++) {
                int b = boat;
                refuses(BEYOND, BUSY, "as(" + boat + ", " + kind + ")", x -> x.as(b, kind));
            }
        }
    }

    static void promise7NoSuchBoat() {
        for (int boat : noneOf(Given.BUSY_BOATS)) {
            refuses(BEYOND, BUSY, "as(" + boat + ", 0)", x -> x.as(boat, 0));
            refuses(BEYOND, BUSY, "as(" + boat + ", 4)", x -> x.as(boat, 4));
        }
        for (int boat : noneOf(8)) {
            refuses(BEYOND, CRAMMED, "as(" + boat + ", 0)", x -> x.as(boat, 0));
        }
    }

    // ---- promise 8: of

    static void promise8WhatIs0To10() {
        int[] third = {CLUB, 14, 20, 0, 2, 20, ALL_HOURS, 1, 1, 2, 1};
        int[] fifth = {RALLY, 9, 35, 1, 3, 7, 0x0F000A, 1, 0, 1, 1};
        for (int what = 0; what <= 10; what++) {
            int w = what;
            onlyTells(third[what], BUSY, "of(3, " + what + ")", x -> x.of(3, w));
            onlyTells(fifth[what], BUSY, "of(5, " + what + ")", x -> x.of(5, w));
        }
        for (int what : outside(0, 10)) {
            for (int boat = 0; boat < Given.BUSY_BOATS; boat++) {
                int b = boat;
                refuses(BEYOND, BUSY, "of(" + boat + ", " + what + ")", x -> x.of(b, what));
            }
        }
    }

    static void promise8NowhereIsNoFinding() {
        onlyTells(-1, BUSY, "BERTH of one that has left", x -> x.of(4, 7));
        onlyTells(-1, BUSY, "place of one that has left", x -> x.of(4, 8));
        onlyTells(-1, BUSY, "BERTH of one that never came", x -> x.of(6, 7));
        onlyTells(-1, BUSY, "place of one that never came", x -> x.of(6, 8));
    }

    static void promise8NoSuchBoat() {
        for (int boat : noneOf(Given.BUSY_BOATS)) {
            refuses(BEYOND, BUSY, "of(" + boat + ", 0)", x -> x.of(boat, 0));
            refuses(BEYOND, BUSY, "of(" + boat + ", 7)", x -> x.of(boat, 7));
        }
        for (int boat : noneOf(8)) {
            refuses(BEYOND, CRAMMED, "of(" + boat + ", 10)", x -> x.of(boat, 10));
        }
    }

    static void promise8MovedCountsEachTime() {
        AbreastQuay x = Given.row(6, 7);
        for (int times = 1; times <= 5; times++) {
            due("goes", x.goes(times - 1), 6 - times);
            due("moved " + times + " times", x.of(5, 10), times);
        }
        due("at the quay it has gone all the way", x.of(5, 8), 0);
        due("those that left were moved as often as one inside left", x.of(4, 10), 4);
        due("the first one was not", x.of(0, 10), 0);
        due("between", x.between(6, 0, 0), 1);
        due("once more", x.of(5, 10), 6);
        due("goes, none being outside", x.goes(5), 0);
        due("its own leaving is none", x.of(5, 10), 6);
    }

    // ---- promise 9: at

    static void promise9PlaceIs0To5() {
        AbreastQuay x = Given.row(6, 6);
        for (int place = 0; place <= 5; place++) {
            due("at(0, " + place + ")", x.at(0, place), place);
        }
        for (int place : outside(0, 5)) {
            refuses(BEYOND, () -> Given.row(6, 6), "at(0, " + place + ")", y -> y.at(0, place));
            refuses(BEYOND, BUSY, "at(1, " + place + ")", y -> y.at(1, place));
        }
    }

    static void promise9NoneThereIsNoFinding() {
        onlyTells(-1, BUSY, "an empty BERTH", x -> x.at(2, 0));
        onlyTells(-1, BUSY, "outside of all", x -> x.at(1, 2));
        onlyTells(-1, BUSY, "a place that the BERTH has not", x -> x.at(2, 1));
        onlyTells(-1, BUSY, "the last place that is asked", x -> x.at(2, 5));
        onlyTells(-1, BUSY, "outside of a full one", x -> x.at(0, 3));
        onlyTells(2, BUSY, "the last place of a full one", x -> x.at(0, 2));
    }

    static void promise9NoSuchBerth() {
        for (int berth : noneOf(Given.BUSY_BERTHS)) {
            refuses(BEYOND, BUSY, "at(" + berth + ", 0)", x -> x.at(berth, 0));
        }
        for (int berth : noneOf(4)) {
            refuses(BEYOND, CRAMMED, "at(" + berth + ", 5)", x -> x.at(berth, 5));
        }
        refuses(BEYOND, BUSY, "no BERTH, as those that lie nowhere have it", x -> x.at(-1, -1));
    }
}
