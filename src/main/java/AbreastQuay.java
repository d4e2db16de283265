import java.util.Arrays;

/** A quay at which boats lie side by side. The document's promises are named by number. */
public final class AbreastQuay {
    private static final int BEYOND = -1000001;
    private static final int FULL = -1000002;
    private static final int KIND = -1000003;
    private static final int NONE = -1000004;
    private static final int STATE = -1000005;
    private static final int MISSING = -1000006;
    private static final int SIZE = -1000007;
    private static final int WRONG = -1000100;
    private static final int LEAST_ANSWER = -1000000;

    private static final int BOAT = 0;
    private static final int CAT = 1;
    private static final int CLUB = 2;
    private static final int RALLY = 3;

    private static final int LAST_HOUR = 23;
    private static final int ALL_HOURS = 0xFFFFFF;
    private static final int NOWHERE = -1;

    private static final int MOST_BERTHS = 4;
    private static final int MOST_BOATS = 8;
    private static final int MOST_PLACES = 6;
    private static final int MOST_SHEETS = 4;
    private static final int MOST_NIGHTS = 99;

    private final Quay quay;
    private final Day day;
    private final Placing placing;
    private final Dues dues;
    private final Sheet[] sheets;
    private int findings;

    /** Promise 1. */
    public AbreastQuay() {
        quay = new Quay();
        day = new Day();
        placing = new Placing();
        dues = new Dues();
        sheets = new Sheet[MOST_SHEETS];
        for (int s = 0; s < sheets.length; s++) {
            sheets[s] = new Sheet();
        }
    }

    // ---- the quay and its boats

    /** Promise 2. */
    public int berth(int depth, int fall, int places, int reach) {
        return counted(quay.addBerth(depth, fall, places, reach));
    }

    /** Promise 3. */
    public int boat(int kind, int length, int draught, boolean power) {
        return counted(quay.addBoat(kind, length, draught, power));
    }

    /** Promise 4. */
    public int leaves(int boat, int first, int last) {
        Boat x = quay.boatOf(boat);
        if (x == null || first < 0 || last > LAST_HOUR || first > last) {
            return counted(BEYOND);
        }
        x.first = first;
        x.last = last;
        return 1;
    }

    /** Promise 5. */
    public int aboard(int boat, int hours) {
        Boat x = quay.boatOf(boat);
        if (x == null || !areHours(hours)) {
            return counted(BEYOND);
        }
        int before = x.hoursAboard;
        x.hoursAboard = hours;
        return before;
    }

    /** Promise 6. */
    public int over(int v) {
        if (!isWithin(v, 0, Quay.MOST_OVER)) {
            return counted(BEYOND);
        }
        int before = quay.overhang;
        quay.overhang = v;
        return before;
    }

    /** Promise 7. */
    public int as(int boat, int kind) {
        Boat x = quay.boatOf(boat);
        if (x == null || !isWithin(kind, BOAT, RALLY)) {
            return counted(BEYOND);
        }
        return x.isOfKind(kind) ? x.number : counted(KIND);
    }

    /** Promise 8. */
    public int of(int boat, int what) {
        Boat x = quay.boatOf(boat);
        return counted(x == null ? BEYOND : x.detail(what));
    }

    /** Promise 9. */
    public int at(int berth, int place) {
        if (quay.berthOf(berth) == null || !isWithin(place, 0, MOST_PLACES - 1)) {
            return counted(BEYOND);
        }
        Boat x = quay.boatAt(berth, place);
        return x == null ? -1 : x.number;
    }

    // ---- who lies where

    /** Promise 10. */
    public int may(int boat, int berth) {
        return counted(quay.whyNotOutermost(boat, berth));
    }

    /** Promise 11. */
    public int comes(int boat, int berth) {
        return counted(quay.layOutermost(boat, berth));
    }

    /** Promise 12. */
    public int between(int boat, int berth, int place) {
        return counted(quay.layBetween(boat, berth, place));
    }

    /** Promise 13. */
    public int goes(int boat) {
        Boat x = quay.boatOf(boat);
        if (x == null) {
            return counted(BEYOND);
        }
        return x.isLying() ? quay.takeAway(x) : counted(STATE);
    }

    /** Promise 14. */
    public int fault(int berth) {
        return counted(quay.firstFault(berth));
    }

    /** Promise 15. */
    public int pairs(int berth, boolean surely) {
        return counted(quay.countPairs(berth, surely));
    }

    /** Promise 16. */
    public int offer(int boat) {
        return counted(quay.bestBerth(boat));
    }

    // ---- a set laid anew

    /** Promise 17. */
    public int plan(int set) {
        int finding = placing.refuses(quay, set);
        return counted(finding != 0 ? finding : placing.find(quay, set));
    }

    /** Promise 18. */
    public int lies(int set, int boat, boolean place) {
        int finding = placing.refuses(quay, set);
        if (finding != 0) {
            return counted(finding);
        }
        if (!isInSet(set, boat)) {
            return counted(KIND);
        }
        if (placing.find(quay, set) == NONE) {
            return counted(NONE);
        }
        return place ? placing.placeFor(set, boat) : placing.berthFor(set, boat);
    }

    /** Promise 19. */
    public int lay(int set) {
        int finding = placing.refuses(quay, set);
        if (finding != 0) {
            return counted(finding);
        }
        if (placing.find(quay, set) == NONE) {
            return counted(NONE);
        }
        return layAnew(set);
    }

    private int layAnew(int set) {
        int changed = 0;
        for (int i = 0; i < MOST_BOATS; i++) {
            Boat x = quay.boatOf(i);
            if (x == null) {
                break;
            }
            boolean chosen = isInSet(set, i);
            int berth = chosen ? placing.berthFor(set, i) : NOWHERE;
            int place = chosen ? placing.placeFor(set, i) : NOWHERE;
            if (x.isLying() && (x.berth != berth || x.place != place)) {
                changed++;
            }
            x.layAt(berth, place);
        }
        return changed;
    }

    // ---- the day

    /** Promise 20. */
    public int tide(int hours) {
        if (!areHours(hours)) {
            return counted(BEYOND);
        }
        int before = day.tideHours;
        day.tideHours = hours;
        return before;
    }

    /** Promise 21. */
    public int run(int n) {
        if (!isWithin(n, 1, LAST_HOUR + 1)) {
            return counted(BEYOND);
        }
        int left = 0;
        for (int i = 0; i < n; i++) {
            left += day.passHour(quay);
        }
        return left;
    }

    /** Promise 22. */
    public int could(int boat) {
        Boat x = quay.boatOf(boat);
        if (x == null) {
            return counted(BEYOND);
        }
        return x.isLying() ? quay.movedIfLeaving(x, day.hour) : counted(STATE);
    }

    // ---- dues

    /** Promise 23. */
    public int feed(long w, int n) {
        return counted(dues.takeBytes(w, n));
    }

    /** Promise 24. */
    public int text() {
        return counted(dues.takeText());
    }

    /** Promise 25. */
    public int due(int boat, int nights) {
        Boat x = quay.boatOf(boat);
        if (x == null || !isWithin(nights, 0, MOST_NIGHTS)) {
            return counted(BEYOND);
        }
        int price = dues.priceFor(x);
        return price == NONE ? counted(NONE) : price * x.length * nights;
    }

    // ---- sheets

    /** Promise 26. */
    public int sheet(int s, int bits, int n) {
        Sheet x = sheetOf(s);
        return counted(x == null ? BEYOND : x.begin(bits, n));
    }

    /** Promise 27: a number that was on the sheet is no finding, however low it is. */
    public int write(int s, int i, int v) {
        Sheet x = sheetOf(s);
        if (x == null) {
            return counted(BEYOND);
        }
        if (x.isMissing()) {
            return counted(MISSING);
        }
        return x.hasNumbers(i, 1) ? x.replace(i, v) : counted(BEYOND);
    }

    /** Promise 28. */
    public int copy(int s, int from, int t, int to, int n) {
        Sheet source = sheetOf(s);
        Sheet target = sheetOf(t);
        if (source == null || target == null) {
            return counted(BEYOND);
        }
        if (source.isMissing() || target.isMissing()) {
            return counted(MISSING);
        }
        if (source.width != target.width) {
            return counted(KIND);
        }
        if (!source.hasNumbers(from, n) || !target.hasNumbers(to, n)) {
            return counted(BEYOND);
        }
        System.arraycopy(source.numbers, from, target.numbers, to, n);
        return n;
    }

    /** Promise 29: what a boat that can't come would be told is not told by an act of its own. */
    public int read(int s, int berth) {
        Sheet x = sheetOf(s);
        if (x == null || quay.berthOf(berth) == null) {
            return counted(BEYOND);
        }
        if (x.isMissing()) {
            return counted(MISSING);
        }
        int came = 0;
        while (came < x.size && quay.layOutermost(x.numberAt(came), berth) >= 0) {
            came++;
        }
        return came;
    }

    /** Promise 30. */
    public int told(int what) {
        switch (what) {
            case 0: return quay.berthCount;
            case 1: return quay.boatCount;
            case 2: return quay.countLying();
            case 3: return day.hour;
            case 4: return dues.rowCount;
            case 5: return dues.tapeLength;
            case 6: return quay.movedEver;
            case 7: return findings;
            default: return counted(BEYOND);
        }
    }

    private int counted(int answer) {
        if (answer < LEAST_ANSWER) {
            findings++;
        }
        return answer;
    }

    private Sheet sheetOf(int s) {
        return s >= 0 && s < sheets.length ? sheets[s] : null;
    }

    private static boolean isWithin(int v, int least, int most) {
        return v >= least && v <= most;
    }

    private static boolean areHours(int hours) {
        return (hours & ~ALL_HOURS) == 0;
    }

    private static boolean isInSet(int set, int boat) {
        return isWithin(boat, 0, MOST_BOATS - 1) && (set >> boat & 1) != 0;
    }

    /** A berth as it was built: who lies there is told by the boats alone. */
    private static final class Berth {
        final int depth;
        final int fall;
        final int places;
        final int reach;

        Berth(int depth, int fall, int places, int reach) {
            this.depth = depth;
            this.fall = fall;
            this.places = places;
            this.reach = reach;
        }
    }

    private static final class Boat {
        final int number;
        final int kind;
        final int length;
        final int draught;
        final boolean power;
        int first;
        int last;
        int hoursAboard;
        int berth;
        int place;
        int hoursLate;
        int timesMoved;

        Boat(int number, int kind, int length, int draught, boolean power) {
            this.number = number;
            this.kind = kind;
            this.length = length;
            this.draught = draught;
            this.power = power;
            last = LAST_HOUR;
            hoursAboard = ALL_HOURS;
            berth = NOWHERE;
            place = NOWHERE;
        }

        boolean isOfKind(int other) {
            return kind == other || other == BOAT || (kind == RALLY && other == CLUB);
        }

        boolean isLying() {
            return berth != NOWHERE;
        }

        boolean isOutsideOf(Boat x) {
            return berth == x.berth && place > x.place;
        }

        boolean hasCrewAt(int hour) {
            return (hoursAboard >> hour & 1) != 0;
        }

        /** Whether this boat, lying inside of the other, moves it maybe when it leaves. */
        boolean movesMaybe(Boat outer) {
            return first < outer.last;
        }

        boolean movesSurely(Boat outer) {
            return last < outer.first;
        }

        void layAt(int newBerth, int newPlace) {
            berth = newBerth;
            place = newPlace;
        }

        void moveBy(int places) {
            place += places;
            timesMoved++;
        }

        int detail(int what) {
            switch (what) {
                case 0: return kind;
                case 1: return length;
                case 2: return draught;
                case 3: return power ? 1 : 0;
                case 4: return first;
                case 5: return last;
                case 6: return hoursAboard;
                case 7: return berth;
                case 8: return place;
                case 9: return hoursLate;
                case 10: return timesMoved;
                default: return BEYOND;
            }
        }
    }

    /** The berths, the boats, and who may lie where. */
    private static final class Quay {
        static final int MOST_OVER = 20;
        private static final int MOST_DEPTH = 90;
        private static final int MOST_FALL = 9;
        private static final int MOST_LENGTH = 40;
        private static final int MOST_DRAUGHT = 99;
        private static final int NO_PLACE = 1;

        final Berth[] berths;
        final Boat[] boats;
        int berthCount;
        int boatCount;
        int overhang;
        int movedEver;

        Quay() {
            berths = new Berth[MOST_BERTHS];
            boats = new Boat[MOST_BOATS];
        }

        int addBerth(int depth, int fall, int places, int reach) {
            if (!isWithin(depth, 0, MOST_DEPTH) || !isWithin(fall, 0, MOST_FALL)
                    || !isWithin(places, 1, MOST_PLACES) || !isWithin(reach, 0, MOST_PLACES)) {
                return BEYOND;
            }
            if (berthCount >= berths.length) {
                return FULL;
            }
            berths[berthCount] = new Berth(depth, fall, places, reach);
            berthCount++;
            return berthCount - 1;
        }

        int addBoat(int kind, int length, int draught, boolean power) {
            if (!isWithin(kind, BOAT, RALLY) || !isWithin(length, 1, MOST_LENGTH)
                    || !isWithin(draught, 0, MOST_DRAUGHT)) {
                return BEYOND;
            }
            if (boatCount >= boats.length) {
                return FULL;
            }
            boats[boatCount] = new Boat(boatCount, kind, length, draught, power);
            boatCount++;
            return boatCount - 1;
        }

        Berth berthOf(int number) {
            return number >= 0 && number < berths.length ? berths[number] : null;
        }

        Boat boatOf(int number) {
            return number >= 0 && number < boats.length ? boats[number] : null;
        }

        Boat boatAt(int berth, int place) {
            for (Boat x : boats) {
                if (x != null && x.berth == berth && x.place == place) {
                    return x;
                }
            }
            return null;
        }

        int countAt(int berth) {
            int count = 0;
            for (Boat x : boats) {
                if (x != null && x.berth == berth) {
                    count++;
                }
            }
            return count;
        }

        int countLying() {
            int count = 0;
            for (Boat x : boats) {
                if (x != null && x.isLying()) {
                    count++;
                }
            }
            return count;
        }

        /** The least reason of promise 10 that holds at a place outside of inner (null: of none). */
        int whyNotRight(Boat x, Berth b, int place, Boat inner) {
            int why = whyNotAtPlace(x, b, place);
            return why != 0 || inner == null ? why : whyNotNextTo(x, inner);
        }

        int whyNotAtPlace(Boat x, Berth b, int place) {
            if (place >= b.places) {
                return NO_PLACE;
            }
            if (x.draught > b.depth + place * b.fall) {
                return 2;
            }
            return x.power && place >= b.reach ? 3 : 0;
        }

        int whyNotNextTo(Boat x, Boat inner) {
            if (inner.kind == CAT) {
                return 4;
            }
            boolean bothClub = x.isOfKind(CLUB) && inner.isOfKind(CLUB);
            if (!bothClub && x.length > inner.length + overhang) {
                return 5;
            }
            return x.kind == RALLY && inner.kind != RALLY ? 6 : 0;
        }

        int whyNotOutermost(int boat, int berth) {
            Boat x = boatOf(boat);
            Berth b = berthOf(berth);
            if (x == null || b == null) {
                return BEYOND;
            }
            if (x.isLying()) {
                return STATE;
            }
            int place = countAt(berth);
            return whyNotRight(x, b, place, boatAt(berth, place - 1));
        }

        int layOutermost(int boat, int berth) {
            int why = whyNotOutermost(boat, berth);
            if (why != 0) {
                return why < 0 ? why : why == NO_PLACE ? FULL : KIND;
            }
            Boat x = boatOf(boat);
            if (x == null) {
                return BEYOND;
            }
            int place = countAt(berth);
            x.layAt(berth, place);
            return place;
        }

        int layBetween(int boat, int berth, int place) {
            Boat x = boatOf(boat);
            Berth b = berthOf(berth);
            if (x == null || b == null || place < 0 || place > countAt(berth)) {
                return BEYOND;
            }
            if (x.isLying()) {
                return STATE;
            }
            if (countAt(berth) >= b.places) {
                return FULL;
            }
            if (!fitsBetween(x, b, berth, place)) {
                return KIND;
            }
            int moved = moveFrom(berth, place, 1);
            x.layAt(berth, place);
            return moved;
        }

        private boolean fitsBetween(Boat x, Berth b, int berth, int place) {
            if (whyNotRight(x, b, place, boatAt(berth, place - 1)) != 0) {
                return false;
            }
            for (Boat z : boats) {
                if (z == null || z.berth != berth || z.place < place) {
                    continue;
                }
                Boat inner = z.place == place ? x : boatAt(berth, z.place - 1);
                if (whyNotRight(z, b, z.place + 1, inner) != 0) {
                    return false;
                }
            }
            return true;
        }

        int takeAway(Boat x) {
            int berth = x.berth;
            int place = x.place;
            x.layAt(NOWHERE, NOWHERE);
            return moveFrom(berth, place + 1, -1);
        }

        private int moveFrom(int berth, int place, int by) {
            int moved = 0;
            for (Boat z : boats) {
                if (z != null && z.berth == berth && z.place >= place) {
                    z.moveBy(by);
                    moved++;
                }
            }
            movedEver += moved;
            return moved;
        }

        int firstFault(int berth) {
            Berth b = berthOf(berth);
            if (b == null) {
                return BEYOND;
            }
            for (int place = 0; place < MOST_PLACES; place++) {
                Boat x = boatAt(berth, place);
                if (x != null && whyNotRight(x, b, place, boatAt(berth, place - 1)) != 0) {
                    return place;
                }
            }
            return -1;
        }

        int countPairs(int berth, boolean surely) {
            if (berthOf(berth) == null) {
                return BEYOND;
            }
            int pairs = 0;
            for (Boat outer : boats) {
                if (outer != null && outer.berth == berth) {
                    pairs += countMoving(outer, surely);
                }
            }
            return pairs;
        }

        private int countMoving(Boat outer, boolean surely) {
            int moving = 0;
            for (Boat x : boats) {
                if (x != null && outer.isOutsideOf(x)
                        && (surely ? x.movesSurely(outer) : x.movesMaybe(outer))) {
                    moving++;
                }
            }
            return moving;
        }

        int bestBerth(int boat) {
            Boat x = boatOf(boat);
            if (x == null) {
                return BEYOND;
            }
            if (x.isLying()) {
                return STATE;
            }
            int best = NONE;
            int fewest = MOST_BOATS;
            for (int berth = 0; berth < berthCount; berth++) {
                int more = countMaybeAt(berth, x);
                if (more < fewest && whyNotOutermost(boat, berth) == 0) {
                    best = berth;
                    fewest = more;
                }
            }
            return best;
        }

        private int countMaybeAt(int berth, Boat comer) {
            int moving = 0;
            for (Boat x : boats) {
                if (x != null && x.berth == berth && x.movesMaybe(comer)) {
                    moving++;
                }
            }
            return moving;
        }

        /** How many lie outside of a boat; -1 if one of them, or the boat, has no crew then. */
        int movedIfLeaving(Boat x, int hour) {
            if (!x.hasCrewAt(hour)) {
                return -1;
            }
            int moved = 0;
            for (Boat outer : boats) {
                if (outer != null && outer.isOutsideOf(x)) {
                    if (!outer.hasCrewAt(hour)) {
                        return -1;
                    }
                    moved++;
                }
            }
            return moved;
        }
    }

    /** The hour, the tide, and what an hour does. */
    private static final class Day {
        int hour;
        int tideHours;

        Day() {
            tideHours = ALL_HOURS;
        }

        int passHour(Quay quay) {
            int left = (tideHours >> hour & 1) != 0 ? sendOff(quay) : 0;
            for (Boat x : quay.boats) {
                if (x != null && wantsToLeave(x)) {
                    x.hoursLate++;
                }
            }
            hour = hour >= LAST_HOUR ? 0 : hour + 1;
            return left;
        }

        private int sendOff(Quay quay) {
            int left = 0;
            for (int i = 0; i < MOST_BOATS; i++) {
                Boat x = nextToLeave(quay);
                if (x == null) {
                    break;
                }
                quay.takeAway(x);
                left++;
            }
            return left;
        }

        private Boat nextToLeave(Quay quay) {
            Boat next = null;
            int fewest = MOST_BOATS;
            for (Boat x : quay.boats) {
                if (x != null && wantsToLeave(x)) {
                    int moved = quay.movedIfLeaving(x, hour);
                    if (moved >= 0 && moved < fewest) {
                        next = x;
                        fewest = moved;
                    }
                }
            }
            return next;
        }

        private boolean wantsToLeave(Boat x) {
            return x.isLying() && x.first <= hour;
        }
    }

    /**
     * THE PLACING of a set. A row of boats at one berth costs its pairs and, below them, each boat's
     * berth and place, the least boat's highest: so the cheapest placing is the document's one, and
     * its cost tells where each boat lies. Boats go by their rank in the set.
     */
    private static final class Placing {
        private static final int MOST_RANKS = 6;
        private static final int MOST_PARTS = 64;
        private static final int SPOT_BITS = 5;
        private static final int PLACE_BITS = 3;
        private static final int PAIR_SHIFT = SPOT_BITS * MOST_RANKS;
        private static final long NEVER = 1L << 40;

        private final Boat[] ranked;
        private final int[] mayLieNextTo;
        private final int[] movedBy;
        private final long[] rowCost;
        private final long[] berthCost;
        private final long[] cost;
        private int ranks;
        private long found;

        Placing() {
            ranked = new Boat[MOST_RANKS];
            mayLieNextTo = new int[MOST_RANKS];
            movedBy = new int[MOST_RANKS];
            rowCost = new long[MOST_PARTS * MOST_RANKS];
            berthCost = new long[MOST_PARTS];
            cost = new long[MOST_PARTS];
        }

        /** BEYOND or SIZE, as of promise 17; 0 if neither. */
        int refuses(Quay quay, int set) {
            if ((set & -(1 << quay.boatCount)) != 0) {
                return BEYOND;
            }
            return Integer.bitCount(set) > MOST_RANKS ? SIZE : 0;
        }

        /** How many pairs THE PLACING has, or NONE; the set is one that is not refused. */
        int find(Quay quay, int set) {
            rankBoats(quay, set);
            compareRanks(quay);
            Arrays.fill(cost, NEVER);
            cost[0] = 0;
            for (int berth = 0; berth < quay.berthCount; berth++) {
                Berth b = quay.berthOf(berth);
                if (b != null) {
                    costRows(quay, b, berth);
                    joinBerth();
                }
            }
            found = cost[allRanks()];
            return found >= NEVER ? NONE : (int) (found >> PAIR_SHIFT);
        }

        int berthFor(int set, int boat) {
            return spotFor(set, boat) >> PLACE_BITS;
        }

        int placeFor(int set, int boat) {
            return spotFor(set, boat) & (1 << PLACE_BITS) - 1;
        }

        private int spotFor(int set, int boat) {
            int rank = Integer.bitCount(set & (1 << boat) - 1);
            return (int) (found >> spotShift(rank)) & (1 << SPOT_BITS) - 1;
        }

        private int spotShift(int rank) {
            return SPOT_BITS * (MOST_RANKS - 1 - rank);
        }

        private int allRanks() {
            return (1 << ranks) - 1;
        }

        private void rankBoats(Quay quay, int set) {
            ranks = 0;
            for (Boat x : quay.boats) {
                if (x != null && ranks < MOST_RANKS && isInSet(set, x.number)) {
                    ranked[ranks] = x;
                    ranks++;
                }
            }
        }

        private void compareRanks(Quay quay) {
            for (int outer = 0; outer < ranks; outer++) {
                mayLieNextTo[outer] = 0;
                movedBy[outer] = 0;
                for (int inner = 0; inner < ranks; inner++) {
                    compareTwo(quay, outer, inner);
                }
            }
        }

        private void compareTwo(Quay quay, int outer, int inner) {
            Boat y = ranked[outer];
            Boat x = ranked[inner];
            if (x == null || y == null) {
                return;
            }
            if (quay.whyNotNextTo(y, x) == 0) {
                mayLieNextTo[outer] |= 1 << inner;
            }
            if (x.movesMaybe(y)) {
                movedBy[outer] |= 1 << inner;
            }
        }

        /** The cheapest row of each part of the set at a berth, by which rank lies outermost. */
        private void costRows(Quay quay, Berth b, int berth) {
            for (int part = 1; part <= allRanks(); part++) {
                berthCost[part] = NEVER;
                for (int outer = 0; outer < ranks; outer++) {
                    if ((part >> outer & 1) != 0) {
                        long row = costOutermost(quay, b, berth, part, outer);
                        rowCost[part * MOST_RANKS + outer] = row;
                        berthCost[part] = Math.min(berthCost[part], row);
                    }
                }
            }
        }

        private long costOutermost(Quay quay, Berth b, int berth, int part, int outer) {
            int inside = part & ~(1 << outer);
            int place = Integer.bitCount(inside);
            Boat x = ranked[outer];
            if (x == null || quay.whyNotAtPlace(x, b, place) != 0) {
                return NEVER;
            }
            long least = inside == 0 ? 0 : costInside(inside, inside & mayLieNextTo[outer]);
            if (least >= NEVER) {
                return NEVER;
            }
            long pairs = Integer.bitCount(inside & movedBy[outer]);
            long spot = berth << PLACE_BITS | place;
            return least + (pairs << PAIR_SHIFT) + (spot << spotShift(outer));
        }

        private long costInside(int inside, int nextOnes) {
            long least = NEVER;
            for (int next = 0; next < ranks; next++) {
                if ((nextOnes >> next & 1) != 0) {
                    least = Math.min(least, rowCost[inside * MOST_RANKS + next]);
                }
            }
            return least;
        }

        /** Greater parts first, so that what is left of a part has no boat at this berth yet. */
        private void joinBerth() {
            for (int part = allRanks(); part > 0; part--) {
                long least = cost[part];
                for (int here = part; here > 0; here = here - 1 & part) {
                    least = Math.min(least, berthCost[here] + cost[part & ~here]);
                }
                cost[part] = least;
            }
        }
    }

    /** The tape, and the rows of the last text that was right. */
    private static final class Dues {
        private static final int MOST_BYTES = 80;
        private static final int MOST_ROWS = 8;
        private static final int ROW_BYTES = 7;
        private static final int MOST_FED = 8;

        private final byte[] tape;
        private final int[] kinds;
        private final int[] lengths;
        private final int[] prices;
        int tapeLength;
        int rowCount;

        Dues() {
            tape = new byte[MOST_BYTES];
            kinds = new int[MOST_ROWS];
            lengths = new int[MOST_ROWS];
            prices = new int[MOST_ROWS];
        }

        int takeBytes(long w, int n) {
            if (!isWithin(n, 1, MOST_FED)) {
                return BEYOND;
            }
            if (tapeLength + n > tape.length) {
                return FULL;
            }
            for (int i = 0; i < n; i++) {
                tape[tapeLength + i] = (byte) (w >> 8 * i);
            }
            tapeLength += n;
            return tapeLength;
        }

        int takeText() {
            int length = tapeLength;
            int wrong = firstWrong();
            tapeLength = 0;
            if (wrong >= 0) {
                return WRONG - wrong;
            }
            rowCount = length / ROW_BYTES;
            for (int row = 0; row < rowCount && row < MOST_ROWS; row++) {
                int start = row * ROW_BYTES;
                kinds[row] = kindOf(tape[start]);
                lengths[row] = twoDigits(start + 1);
                prices[row] = twoDigits(start + 4);
            }
            return rowCount;
        }

        /** The place of the first wrong byte, the length if the text is cut off, -1 if it is right. */
        private int firstWrong() {
            for (int i = 0; i < tapeLength; i++) {
                if (!canStand(tape[i], i)) {
                    return i;
                }
            }
            return tapeLength % ROW_BYTES == 0 ? -1 : tapeLength;
        }

        private static boolean canStand(int sign, int place) {
            switch (place % ROW_BYTES) {
                case 0: return kindOf(sign) >= 0 && place < MOST_ROWS * ROW_BYTES;
                case 3: return sign == ':';
                case 6: return sign == ';';
                default: return isWithin(sign, '0', '9');
            }
        }

        private static int kindOf(int letter) {
            switch (letter) {
                case 'b': return BOAT;
                case 'c': return CAT;
                case 'l': return CLUB;
                case 'r': return RALLY;
                default: return -1;
            }
        }

        private int twoDigits(int place) {
            if (place < 0 || place + 1 >= tape.length) {
                return 0;
            }
            return (tape[place] - '0') * 10 + tape[place + 1] - '0';
        }

        /** The price in THE ROW of a boat, or NONE. */
        int priceFor(Boat x) {
            for (int row = 0; row < rowCount && row < MOST_ROWS; row++) {
                if (x.isOfKind(kinds[row]) && lengths[row] >= x.length) {
                    return prices[row];
                }
            }
            return NONE;
        }
    }

    /** A row of numbers; one of 0 bits is MISSING. */
    private static final class Sheet {
        private static final int MOST_NUMBERS = 8;

        final int[] numbers;
        int width;
        int size;

        Sheet() {
            numbers = new int[MOST_NUMBERS];
        }

        boolean isMissing() {
            return width == 0;
        }

        /** Promise 26: n is asked whatever the bits, for findings go before what the act does. */
        int begin(int bits, int n) {
            if (bits != 0 && bits != 8 && bits != 16 && bits != 32) {
                return BEYOND;
            }
            if (n < 0) {
                return SIZE;
            }
            if (n > numbers.length) {
                return BEYOND;
            }
            width = bits;
            size = bits == 0 ? 0 : n;
            Arrays.fill(numbers, 0);
            return size;
        }

        /** Whether there are n numbers from one on; written so that no sum can wrap around. */
        boolean hasNumbers(int from, int n) {
            return from >= 0 && n >= 0 && from <= size && n <= size - from;
        }

        int numberAt(int i) {
            return i >= 0 && i < size && i < numbers.length ? numbers[i] : NOWHERE;
        }

        int replace(int i, int v) {
            int before = numberAt(i);
            if (i >= 0 && i < numbers.length) {
                numbers[i] = cutToWidth(v);
            }
            return before;
        }

        private int cutToWidth(int v) {
            switch (width) {
                case 8: return (byte) v;
                case 16: return (short) v;
                default: return v;
            }
        }
    }
}
