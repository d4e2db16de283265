import java.lang.reflect.InvocationTargetException;
import java.lang.reflect.Method;
import java.util.Arrays;
import java.util.Comparator;
import java.util.function.Supplier;

/**
 * What the tests of boundary cases share. A test is a static method whose name begins with the number of
 * the promise, as promise2DepthIs0To90, and tells which sentence it stands for.
 */
abstract class Edges {
    static final int BEYOND = -1000001;
    static final int FULL = -1000002;
    static final int KIND = -1000003;
    static final int NONE = -1000004;
    static final int STATE = -1000005;
    static final int MISSING = -1000006;
    static final int SIZE = -1000007;
    static final int WRONG = -1000100;

    static final int BOAT = 0;
    static final int CAT = 1;
    static final int CLUB = 2;
    static final int RALLY = 3;

    static final int ALL_HOURS = 0xFFFFFF;
    static final int MIN = Integer.MIN_VALUE;
    static final int MAX = Integer.MAX_VALUE;

    /** A call on an object. */
    interface Act {
        int on(AbreastQuay x);
    }

    /** Objects that are used for tests of refused calls: new, in the midst of things, and with no room left. */
    static final Supplier<AbreastQuay> NEW = AbreastQuay::new;
    static final Supplier<AbreastQuay> BUSY = Given::busy;
    static final Supplier<AbreastQuay> CRAMMED = Given::crammed;

    static void runAll(Class<?> tests) {
        Method[] methods = tests.getDeclaredMethods();
        Arrays.sort(methods, Comparator.comparing(Method::getName));
        for (Method m : methods) {
            if (m.getName().matches("promise\\d+[A-Z]\\w*")) {
                runOne(m);
            }
        }
        Check.end();
    }

    private static void runOne(Method m) {
        Check.begin(m.getName());
        try {
            m.invoke(null);
        } catch (InvocationTargetException e) {
            Check.holds("no call throws, but " + e.getCause(), false);
        } catch (IllegalAccessException e) {
            Check.holds("the test can be called", false);
        }
        Check.finish();
    }

    static void due(String call, long got, long want) {
        Check.due(call, got, want);
    }

    /** The call is answered by a finding, and but for told(7) the object is as one that was never asked. */
    static void refuses(int finding, Supplier<AbreastQuay> state, String call, Act act) {
        AbreastQuay asked = state.get();
        AbreastQuay twin = state.get();
        int before = asked.told(7);
        due(call, act.on(asked), finding);
        due(call + ", then told(7)", asked.told(7), before + 1);
        due("a twin's told(7)", twin.told(7), before);
        Check.holds(call + " changes nothing", Given.everythingOf(asked).equals(Given.everythingOf(twin)));
    }

    /** The call is answered as due, which is no finding, and changes nothing at all. */
    static void onlyTells(int answer, Supplier<AbreastQuay> state, String call, Act act) {
        AbreastQuay asked = state.get();
        AbreastQuay twin = state.get();
        due(call, act.on(asked), answer);
        due(call + ", then told(7)", asked.told(7), twin.told(7));
        Check.holds(call + " changes nothing", Given.everythingOf(asked).equals(Given.everythingOf(twin)));
    }

    /** Numbers that name none of so many things: the ends of int, the next ones, and some whose low bits would do. */
    static int[] noneOf(int count) {
        return new int[] {MIN, MIN + 1, -1, count, count + 1, 32, 256, 1 << 16, MAX - 1, MAX};
    }

    /** Numbers outside of a least and a greatest one: the ends of int, one below and one above. */
    static int[] outside(int least, int greatest) {
        return new int[] {MIN, MIN + 1, least - 1, greatest + 1, MAX - 1, MAX};
    }

    /** Sets of bits that have others than the lowest so many. */
    static int[] setsWithOthersThan(int bits) {
        int all = (1 << bits) - 1;
        int[] sets = new int[32 - bits + 4];
        for (int i = bits; i < 32; i++) {
            sets[i - bits] = 1 << i;
        }
        sets[32 - bits] = -1;
        sets[33 - bits] = MAX;
        sets[34 - bits] = all + 1 | 1;
        sets[35 - bits] = MIN | all;
        return sets;
    }
}
