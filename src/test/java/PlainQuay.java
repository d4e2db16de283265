import java.util.ArrayList;
import java.util.List;

/**
 * The document's words again, in another form than the program's: rows of boats as lists, THE PLACING
 * by going through every arrangement, a text by reading it row by row. Slow, and made for tests alone.
 */
final class PlainQuay {
    static final int BEYOND = -1000001;
    static final int FULL = -1000002;
    static final int KIND = -1000003;
    static final int NONE = -1000004;
    static final int STATE = -1000005;
    static final int MISSING = -1000006;
    static final int SIZE = -1000007;
    static final int WRONG = -1000100;
    private static final int[] ABOVE = {-1, 0, 0, 2};

    private static final class Vessel {
        int kind;
        int length;
        int draught;
        boolean power;
        int first = 0;
        int last = 23;
        int aboard = 0xFFFFFF;
        int late;
        int moved;
    }

    private record Row(int kind, int length, int price) {
    }

    private final List<int[]> berths = new ArrayList<>();
    private final List<List<Integer>> rows = new ArrayList<>();
    private final List<Vessel> boats = new ArrayList<>();
    private final StringBuilder tape = new StringBuilder();
    private List<Row> dues = new ArrayList<>();
    private final int[] bits = new int[4];
    private final int[][] sheets = new int[4][];
    private int over;
    private int hour;
    private int tide = 0xFFFFFF;
    private int movedEver;
    private int findings;

    /** The answer of an act by its name, with what it changes. */
    int act(String name, long[] a) {
        int answer = answer(name, a);
        boolean finding = answer < -1000000 && !(name.equals("write") && wroteNumber);
        if (finding) {
            findings++;
        }
        return answer;
    }

    private boolean wroteNumber;

    private int answer(String name, long[] a) {
        int p = a.length > 0 ? (int) a[0] : 0;
        int q = a.length > 1 ? (int) a[1] : 0;
        int r = a.length > 2 ? (int) a[2] : 0;
        switch (name) {
            case "berth": return berth(p, q, r, (int) a[3]);
            case "boat": return boat(p, q, r, a[3] != 0);
            case "leaves": return leaves(p, q, r);
            case "aboard": return aboard(p, q);
            case "over": return setOver(p);
            case "as": return !isBoat(p) || q < 0 || q > 3 ? BEYOND : isA(p, q) ? p : KIND;
            case "of": return isBoat(p) ? of(p, q) : BEYOND;
            case "at": return at(p, q);
            case "may": return may(p, q);
            case "comes": return comes(p, q);
            case "between": return between(p, q, r);
            case "goes": return !isBoat(p) ? BEYOND : berthOf(p) < 0 ? STATE : leave(p);
            case "fault": return fault(p);
            case "pairs": return isBerth(p) ? pairs(rows.get(p), q != 0) : BEYOND;
            case "offer": return offer(p);
            case "plan": return plan(p);
            case "lies": return lies(p, q, r != 0);
            case "lay": return lay(p);
            case "tide": return setTide(p);
            case "run": return run(p);
            case "could": return !isBoat(p) ? BEYOND : berthOf(p) < 0 ? STATE : could(p);
            case "feed": return feed(a[0], q);
            case "text": return text();
            case "due": return due(p, q);
            case "sheet": return sheet(p, q, r);
            case "write": return write(p, q, r);
            case "copy": return copy(p, q, r, (int) a[3], (int) a[4]);
            case "read": return read(p, q);
            case "told": return told(p);
            default: throw new IllegalStateException(name);
        }
    }

    private boolean isBoat(int n) {
        return n >= 0 && n < boats.size();
    }

    private boolean isBerth(int n) {
        return n >= 0 && n < berths.size();
    }

    private boolean isA(int boat, int kind) {
        for (int k = boats.get(boat).kind; k >= 0; k = ABOVE[k]) {
            if (k == kind) {
                return true;
            }
        }
        return false;
    }

    private int berthOf(int boat) {
        for (int b = 0; b < rows.size(); b++) {
            if (rows.get(b).contains(boat)) {
                return b;
            }
        }
        return -1;
    }

    private int placeOf(int boat) {
        int b = berthOf(boat);
        return b < 0 ? -1 : rows.get(b).indexOf(boat);
    }

    private int berth(int depth, int fall, int places, int reach) {
        if (depth < 0 || depth > 90 || fall < 0 || fall > 9 || places < 1 || places > 6 || reach < 0 || reach > 6) {
            return BEYOND;
        }
        if (berths.size() == 4) {
            return FULL;
        }
        berths.add(new int[] {depth, fall, places, reach});
        rows.add(new ArrayList<>());
        return berths.size() - 1;
    }

    private int boat(int kind, int length, int draught, boolean power) {
        if (kind < 0 || kind > 3 || length < 1 || length > 40 || draught < 0 || draught > 99) {
            return BEYOND;
        }
        if (boats.size() == 8) {
            return FULL;
        }
        Vessel v = new Vessel();
        v.kind = kind;
        v.length = length;
        v.draught = draught;
        v.power = power;
        boats.add(v);
        return boats.size() - 1;
    }

    private int leaves(int boat, int first, int last) {
        if (!isBoat(boat) || first < 0 || first > 23 || last < 0 || last > 23 || first > last) {
            return BEYOND;
        }
        boats.get(boat).first = first;
        boats.get(boat).last = last;
        return 1;
    }

    private int aboard(int boat, int hours) {
        if (!isBoat(boat) || hours < 0 || hours > 0xFFFFFF) {
            return BEYOND;
        }
        int was = boats.get(boat).aboard;
        boats.get(boat).aboard = hours;
        return was;
    }

    private int setOver(int v) {
        if (v < 0 || v > 20) {
            return BEYOND;
        }
        int was = over;
        over = v;
        return was;
    }

    private int setTide(int hours) {
        if (hours < 0 || hours > 0xFFFFFF) {
            return BEYOND;
        }
        int was = tide;
        tide = hours;
        return was;
    }

    private int of(int boat, int what) {
        Vessel v = boats.get(boat);
        int[] all = {
            v.kind, v.length, v.draught, v.power ? 1 : 0, v.first, v.last, v.aboard, berthOf(boat), placeOf(boat), v.late, v.moved,
        };
        return what < 0 || what >= all.length ? BEYOND : all[what];
    }

    private int at(int berth, int place) {
        if (!isBerth(berth) || place < 0 || place > 5) {
            return BEYOND;
        }
        List<Integer> row = rows.get(berth);
        return place < row.size() ? row.get(place) : -1;
    }

    /** Why the boat at a place of a row would not LIE RIGHT at a berth. */
    private int why(List<Integer> row, int k, int berth) {
        int[] b = berths.get(berth);
        Vessel x = boats.get(row.get(k));
        Vessel y = k == 0 ? null : boats.get(row.get(k - 1));
        boolean clubs = y != null && isA(row.get(k), 2) && isA(row.get(k - 1), 2);
        boolean[] reasons = {
            false, k >= b[2], x.draught > b[0] + k * b[1], x.power && k >= b[3], y != null && y.kind == 1,
            y != null && !clubs && x.length > y.length + over, y != null && x.kind == 3 && y.kind != 3,
        };
        for (int i = 1; i < reasons.length; i++) {
            if (reasons[i]) {
                return i;
            }
        }
        return 0;
    }

    private int may(int boat, int berth) {
        if (!isBoat(boat) || !isBerth(berth)) {
            return BEYOND;
        }
        if (berthOf(boat) >= 0) {
            return STATE;
        }
        List<Integer> row = new ArrayList<>(rows.get(berth));
        row.add(boat);
        return why(row, row.size() - 1, berth);
    }

    private int comes(int boat, int berth) {
        int why = may(boat, berth);
        if (why != 0) {
            return why < 0 ? why : why == 1 ? FULL : KIND;
        }
        rows.get(berth).add(boat);
        return rows.get(berth).size() - 1;
    }

    private int between(int boat, int berth, int place) {
        if (!isBoat(boat) || !isBerth(berth) || place < 0 || place > rows.get(berth).size()) {
            return BEYOND;
        }
        if (berthOf(boat) >= 0) {
            return STATE;
        }
        List<Integer> row = new ArrayList<>(rows.get(berth));
        if (row.size() == berths.get(berth)[2]) {
            return FULL;
        }
        row.add(place, boat);
        for (int k = place; k < row.size(); k++) {
            if (why(row, k, berth) != 0) {
                return KIND;
            }
        }
        rows.set(berth, row);
        return moved(row.subList(place + 1, row.size()));
    }

    private int moved(List<Integer> some) {
        for (int z : some) {
            boats.get(z).moved++;
            movedEver++;
        }
        return some.size();
    }

    private int leave(int boat) {
        List<Integer> row = rows.get(berthOf(boat));
        int place = row.indexOf(boat);
        row.remove(place);
        return moved(row.subList(place, row.size()));
    }

    private int fault(int berth) {
        if (!isBerth(berth)) {
            return BEYOND;
        }
        List<Integer> row = rows.get(berth);
        for (int k = 0; k < row.size(); k++) {
            if (why(row, k, berth) != 0) {
                return k;
            }
        }
        return -1;
    }

    private int pairs(List<Integer> row, boolean surely) {
        int n = 0;
        for (int i = 0; i < row.size(); i++) {
            for (int j = i + 1; j < row.size(); j++) {
                Vessel x = boats.get(row.get(i));
                Vessel y = boats.get(row.get(j));
                n += (surely ? x.last < y.first : x.first < y.last) ? 1 : 0;
            }
        }
        return n;
    }

    private int offer(int boat) {
        if (!isBoat(boat)) {
            return BEYOND;
        }
        if (berthOf(boat) >= 0) {
            return STATE;
        }
        int best = NONE;
        int fewest = 1000;
        for (int b = 0; b < berths.size(); b++) {
            List<Integer> row = new ArrayList<>(rows.get(b));
            row.add(boat);
            int more = pairs(row, false) - pairs(rows.get(b), false);
            if (why(row, row.size() - 1, b) == 0 && more < fewest) {
                best = b;
                fewest = more;
            }
        }
        return best;
    }

    private int fewestPairs;
    private List<List<Integer>> bestRows;

    /** Every arrangement: each boat of the set, one behind the other, into each gap of each row. */
    private void arrange(List<Integer> left, List<List<Integer>> made, int set) {
        if (left.isEmpty()) {
            judge(made, set);
            return;
        }
        List<Integer> rest = left.subList(1, left.size());
        for (List<Integer> row : made) {
            for (int k = 0; k <= row.size(); k++) {
                row.add(k, left.get(0));
                arrange(rest, made, set);
                row.remove(k);
            }
        }
    }

    private void judge(List<List<Integer>> made, int set) {
        int n = 0;
        for (int b = 0; b < made.size(); b++) {
            for (int k = 0; k < made.get(b).size(); k++) {
                if (why(made.get(b), k, b) != 0) {
                    return;
                }
            }
            n += pairs(made.get(b), false);
        }
        if (bestRows == null || n < fewestPairs || n == fewestPairs && comesBefore(made, bestRows, set)) {
            fewestPairs = n;
            bestRows = new ArrayList<>();
            for (List<Integer> row : made) {
                bestRows.add(new ArrayList<>(row));
            }
        }
    }

    private boolean comesBefore(List<List<Integer>> some, List<List<Integer>> others, int set) {
        for (int boat = 0; boat < 8; boat++) {
            if ((set >> boat & 1) == 0) {
                continue;
            }
            for (int b = 0; b < some.size(); b++) {
                int here = some.get(b).indexOf(boat);
                int there = others.get(b).indexOf(boat);
                if (here != there) {
                    return here >= 0 && (there < 0 || here < there);
                }
            }
        }
        return false;
    }

    private int plan(int set) {
        if (set < 0 || set >= 1 << boats.size()) {
            return BEYOND;
        }
        List<Integer> members = new ArrayList<>();
        for (int i = 0; i < boats.size(); i++) {
            if ((set >> i & 1) != 0) {
                members.add(i);
            }
        }
        if (members.size() > 6) {
            return SIZE;
        }
        List<List<Integer>> made = new ArrayList<>();
        for (int b = 0; b < berths.size(); b++) {
            made.add(new ArrayList<>());
        }
        bestRows = null;
        arrange(members, made, set);
        return bestRows == null ? NONE : fewestPairs;
    }

    private int lies(int set, int boat, boolean place) {
        int n = plan(set);
        if (n == BEYOND || n == SIZE) {
            return n;
        }
        if (boat < 0 || boat > 7 || (set >> boat & 1) == 0) {
            return KIND;
        }
        if (n == NONE) {
            return NONE;
        }
        for (int b = 0; b < bestRows.size(); b++) {
            if (bestRows.get(b).contains(boat)) {
                return place ? bestRows.get(b).indexOf(boat) : b;
            }
        }
        throw new IllegalStateException("a boat of the set is not placed");
    }

    private int lay(int set) {
        int n = plan(set);
        if (n < 0) {
            return n;
        }
        int changed = 0;
        for (int b = 0; b < rows.size(); b++) {
            for (int k = 0; k < rows.get(b).size(); k++) {
                List<Integer> now = bestRows.get(b);
                changed += k < now.size() && now.get(k).equals(rows.get(b).get(k)) ? 0 : 1;
            }
        }
        for (int b = 0; b < rows.size(); b++) {
            rows.set(b, bestRows.get(b));
        }
        return changed;
    }

    private int could(int boat) {
        List<Integer> row = rows.get(berthOf(boat));
        List<Integer> with = row.subList(row.indexOf(boat), row.size());
        for (int z : with) {
            if ((boats.get(z).aboard >> hour & 1) == 0) {
                return -1;
            }
        }
        return with.size() - 1;
    }

    private int run(int n) {
        if (n < 1 || n > 24) {
            return BEYOND;
        }
        int left = 0;
        for (int i = 0; i < n; i++) {
            int next = (tide >> hour & 1) != 0 ? nextOne() : -1;
            while (next >= 0) {
                leave(next);
                left++;
                next = nextOne();
            }
            for (int b = 0; b < boats.size(); b++) {
                boats.get(b).late += berthOf(b) >= 0 && boats.get(b).first <= hour ? 1 : 0;
            }
            hour = (hour + 1) % 24;
        }
        return left;
    }

    private int nextOne() {
        for (int outside = 0; outside < 6; outside++) {
            for (int i = 0; i < boats.size(); i++) {
                if (berthOf(i) >= 0 && boats.get(i).first <= hour && could(i) == outside) {
                    return i;
                }
            }
        }
        return -1;
    }

    private int feed(long w, int n) {
        if (n < 1 || n > 8) {
            return BEYOND;
        }
        if (tape.length() + n > 80) {
            return FULL;
        }
        long left = w;
        for (int i = 0; i < n; i++) {
            tape.append((char) (left & 255));
            left >>>= 8;
        }
        return tape.length();
    }

    private int text() {
        String text = tape.toString();
        tape.setLength(0);
        String shape = "LDD:DD;";
        List<Row> found = new ArrayList<>();
        for (int i = 0; i < text.length(); i++) {
            char want = shape.charAt(i % 7);
            char is = text.charAt(i);
            boolean stands = want == 'L' ? "bclr".indexOf(is) >= 0 && found.size() < 8
                    : want == 'D' ? is >= '0' && is <= '9' : is == want;
            if (!stands) {
                return WRONG - i;
            }
            if (want == ';') {
                String row = text.substring(i - 6, i);
                found.add(new Row("bclr".indexOf(row.charAt(0)), Integer.parseInt(row.substring(1, 3)),
                        Integer.parseInt(row.substring(4, 6))));
            }
        }
        if (found.size() * 7 != text.length()) {
            return WRONG - text.length();
        }
        dues = found;
        return dues.size();
    }

    private int due(int boat, int nights) {
        if (!isBoat(boat) || nights < 0 || nights > 99) {
            return BEYOND;
        }
        for (Row row : dues) {
            if (isA(boat, row.kind()) && row.length() >= boats.get(boat).length) {
                return row.price() * boats.get(boat).length * nights;
            }
        }
        return NONE;
    }

    private int sheet(int s, int width, int n) {
        if (s < 0 || s > 3 || width != 0 && width != 8 && width != 16 && width != 32) {
            return BEYOND;
        }
        if (n < 0) {
            return SIZE;
        }
        if (n > 8) {
            return BEYOND;
        }
        if (width == 0) {
            bits[s] = 0;
            sheets[s] = null;
            return 0;
        }
        bits[s] = width;
        sheets[s] = new int[n];
        return n;
    }

    private int write(int s, int i, int v) {
        wroteNumber = false;
        if (s < 0 || s > 3) {
            return BEYOND;
        }
        if (sheets[s] == null) {
            return MISSING;
        }
        if (i < 0 || i >= sheets[s].length) {
            return BEYOND;
        }
        int was = sheets[s][i];
        sheets[s][i] = v << 32 - bits[s] >> 32 - bits[s];
        wroteNumber = true;
        return was;
    }

    private int copy(int s, int from, int t, int to, int n) {
        if (s < 0 || s > 3 || t < 0 || t > 3) {
            return BEYOND;
        }
        if (sheets[s] == null || sheets[t] == null) {
            return MISSING;
        }
        if (bits[s] != bits[t]) {
            return KIND;
        }
        if (from < 0 || to < 0 || n < 0 || (long) from + n > sheets[s].length || (long) to + n > sheets[t].length) {
            return BEYOND;
        }
        int[] were = sheets[s].clone();
        for (int i = 0; i < n; i++) {
            sheets[t][to + i] = were[from + i];
        }
        return n;
    }

    private int read(int s, int berth) {
        if (s < 0 || s > 3 || !isBerth(berth)) {
            return BEYOND;
        }
        if (sheets[s] == null) {
            return MISSING;
        }
        int came = 0;
        for (int number : sheets[s]) {
            if (comes(number, berth) < 0) {
                break;
            }
            came++;
        }
        return came;
    }

    private int told(int what) {
        int lying = 0;
        for (List<Integer> row : rows) {
            lying += row.size();
        }
        int[] all = {berths.size(), boats.size(), lying, hour, dues.size(), tape.length(), movedEver, findings};
        return what < 0 || what >= all.length ? BEYOND : all[what];
    }
}
