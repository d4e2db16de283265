import java.util.Arrays;
import java.util.Random;

/** Long runs of calls, chosen by a fixed seed, answered by the program and by the document's words again. */
public final class ModelTest {
    private static final int RUNS = 1500;
    private static final int CALLS = 512;
    private static final int PLANS_A_RUN = 6;
    private static final String[] ACTS = {
        "berth", "boat", "leaves", "aboard", "over", "as", "of", "at", "may", "comes", "between", "goes", "fault", "pairs",
        "offer", "plan", "lies", "lay", "tide", "run", "could", "feed", "text", "due", "sheet", "write", "copy", "read", "told",
        "comes", "comes", "between", "between", "between", "leaves", "leaves", "offer", "could", "write", "copy", "feed", "boat",
    };

    private static final int[] EXTREMES = {-1, Integer.MIN_VALUE, Integer.MAX_VALUE, 1 << 24, -1000001, 32, 256, 65536};

    public static void main(String[] args) {
        for (int run = 0; run < RUNS && Check.allRight(); run++) {
            oneRun(run);
        }
        Check.end();
    }

    private static void oneRun(int run) {
        Random r = new Random(7919L * run + 1);
        AbreastQuay x = new AbreastQuay();
        PlainQuay plain = new PlainQuay();
        StringBuilder story = new StringBuilder();
        int plans = 0;
        for (int call = 0; call < CALLS && Check.allRight(); call++) {
            String name = call < 10 ? (call % 3 == 0 ? "berth" : "boat") : ACTS[r.nextInt(ACTS.length)];
            boolean isPlan = name.equals("plan") || name.equals("lies") || name.equals("lay");
            if (isPlan && ++plans > PLANS_A_RUN) {
                name = "pairs";
            }
            long[] a = arguments(name, r, run % 4);
            String told = name + Arrays.toString(a);
            story.append(told).append(' ');
            Check.due("run " + run + " call " + call + " " + told, answer(x, name, a), plain.act(name, a));
        }
        for (int boat = 0; boat < 8 && Check.allRight(); boat++) {
            for (int what = 0; what < 11; what++) {
                long[] a = {boat, what};
                Check.due("run " + run + " at its end, of" + Arrays.toString(a), x.of(boat, what), plain.act("of", a));
            }
        }
        if (!Check.allRight()) {
            System.out.println(story);
        }
    }

    private static int pick(Random r, int below) {
        return r.nextInt(40) == 0 ? EXTREMES[r.nextInt(EXTREMES.length)] : r.nextInt(40) == 0 ? below : r.nextInt(below);
    }

    private static int hours(Random r) {
        int some = r.nextInt(1 << 24);
        return r.nextInt(30) == 0 ? -some : r.nextBoolean() ? some | r.nextInt(1 << 24) | r.nextInt(1 << 24) : 0xFFFFFF;
    }

    private static int set(Random r) {
        return r.nextInt(20) == 0 ? pick(r, 512) : r.nextInt(256) & (r.nextInt(4) == 0 ? 255 : 255 ^ 1 << r.nextInt(8) ^ 1 << r.nextInt(8));
    }

    private static long bytes(Random r) {
        String some = "b40:07;c40:11;l20:03;r40:01;b20:99;";
        int from = r.nextInt(2) * 7;
        long w = 0;
        for (int i = 7; i >= 0; i--) {
            w = w << 8 | some.charAt((from + i) % some.length());
        }
        return r.nextInt(12) == 0 ? r.nextLong() : w;
    }

    /** Arguments that are mostly right; a deep or an easy quay in some runs, so that long rows come about. */
    private static long[] arguments(String name, Random r, int ease) {
        int boat = pick(r, 8);
        int berth = pick(r, 4);
        switch (name) {
            case "berth": return new long[] {ease > 1 ? 60 + pick(r, 31) : pick(r, 91), pick(r, 10), 1 + pick(r, 6), pick(r, 7)};
            case "boat": return new long[] {ease == 3 ? 0 : pick(r, 4), 1 + (ease > 0 ? 20 + pick(r, 10) : pick(r, 40)),
                pick(r, ease > 1 ? 70 : 100), r.nextInt(4) == 0 ? 1 : 0};
            case "leaves": return new long[] {boat, pick(r, 14), 6 + pick(r, 18)};
            case "aboard": return new long[] {boat, hours(r)};
            case "over": return new long[] {pick(r, 21)};
            case "as": return new long[] {boat, pick(r, 4)};
            case "of": return new long[] {boat, pick(r, 11)};
            case "at": return new long[] {berth, pick(r, 6)};
            case "may": case "comes": return new long[] {boat, berth};
            case "between": return new long[] {boat, berth, pick(r, 4)};
            case "pairs": return new long[] {berth, r.nextInt(2)};
            case "fault": return new long[] {berth};
            case "goes": case "offer": case "could": return new long[] {boat};
            case "plan": case "lay": return new long[] {set(r)};
            case "lies": return new long[] {set(r), boat, r.nextInt(2)};
            case "tide": return new long[] {hours(r)};
            case "run": return new long[] {r.nextInt(3) == 0 ? 1 + pick(r, 24) : 1};
            case "feed": return new long[] {bytes(r), r.nextInt(10) == 0 ? pick(r, 9) : 7};
            case "text": return new long[] {};
            case "due": return new long[] {boat, pick(r, 100)};
            case "sheet": return new long[] {pick(r, 4), new int[] {0, 8, 8, 16, 32, 7}[r.nextInt(6)], pick(r, 9)};
            case "write": return new long[] {pick(r, 4), pick(r, 8), r.nextBoolean() ? r.nextInt(8) : r.nextInt()};
            case "copy": return new long[] {pick(r, 4), pick(r, 4), pick(r, 4), pick(r, 4), pick(r, 5)};
            case "read": return new long[] {pick(r, 4), berth};
            default: return new long[] {pick(r, 8)};
        }
    }

    private static int answer(AbreastQuay x, String name, long[] a) {
        int p = a.length > 0 ? (int) a[0] : 0;
        int q = a.length > 1 ? (int) a[1] : 0;
        int r = a.length > 2 ? (int) a[2] : 0;
        switch (name) {
            case "berth": return x.berth(p, q, r, (int) a[3]);
            case "boat": return x.boat(p, q, r, a[3] != 0);
            case "leaves": return x.leaves(p, q, r);
            case "aboard": return x.aboard(p, q);
            case "over": return x.over(p);
            case "as": return x.as(p, q);
            case "of": return x.of(p, q);
            case "at": return x.at(p, q);
            case "may": return x.may(p, q);
            case "comes": return x.comes(p, q);
            case "between": return x.between(p, q, r);
            case "goes": return x.goes(p);
            case "fault": return x.fault(p);
            case "pairs": return x.pairs(p, q != 0);
            case "offer": return x.offer(p);
            case "plan": return x.plan(p);
            case "lies": return x.lies(p, q, r != 0);
            case "lay": return x.lay(p);
            case "tide": return x.tide(p);
            case "run": return x.run(p);
            case "could": return x.could(p);
            case "feed": return x.feed(a[0], q);
            case "text": return x.text();
            case "due": return x.due(p, q);
            case "sheet": return x.sheet(p, q, r);
            case "write": return x.write(p, q, r);
            case "copy": return x.copy(p, q, r, (int) a[3], (int) a[4]);
            case "read": return x.read(p, q);
            case "told": return x.told(p);
            default: throw new IllegalStateException(name);
        }
    }
}
