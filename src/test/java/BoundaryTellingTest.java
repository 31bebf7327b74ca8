import java.math.BigInteger;
import java.util.ArrayList;
import java.util.List;
import java.util.function.Supplier;

/** The boundaries of what is told (promises 22 and 23), and a sweep: no refused call changes anything. */
public final class BoundaryTellingTest {
    private static final Check CHECK = new Check();

    public static void main(String[] args) {
        countOutside();
        countAtTheirLeast();
        countAtTheirMost();
        countOfWater();
        countOfTheNextHour();
        digestOfANewObject();
        digestWraps();
        digestOfAFullObject();
        digestLeavesOutWhatIsGone();
        digestChangesNothing();
        refusedCallsChangeNothing();
        constants();
        CHECK.end("the tellings' boundaries");
    }

    // Promise 22: "0 LAYERS .. 6 how often fits() was done"; "OUTSIDE".
    private static void countOutside() {
        for (int what : Check.beyond(0, 6)) {
            CHECK.same("count(" + what + ")", WetWalls::new, x -> x.count(what), WetWalls.OUTSIDE);
            CHECK.same("count(" + what + ")", Check::full, x -> x.count(what), WetWalls.OUTSIDE);
        }
    }

    // Promise 22, of an empty object.
    private static void countAtTheirLeast() {
        WetWalls x = new WetWalls();
        x.share(0);
        CHECK.dueCounts("least", x, 0, 0, 0, 0, 0, 0, 0);
        int[] want = {0, 0, 0, 10, 0, 0, 0};
        for (int what = 0; what < 7; what++) {
            int which = what;
            CHECK.same("count(" + what + ")", WetWalls::new, y -> y.count(which), want[what]);
        }
    }

    // Promise 22, of an object that has all it may have.
    private static void countAtTheirMost() {
        WetWalls x = new WetWalls();
        for (int i = 0; i < 6; i++) {
            x.layer(1000, 50, 50, 2);
            x.water(i, 1000);
        }
        for (int i = 0; i < 24; i++) {
            x.hour(1000, 50, 100, 1000, 50);
        }
        for (int i = 0; i < 12; i++) {
            x.read(5, 100, 0, 1000);
        }
        for (int i = 0; i < 30; i++) {
            x.fits();
        }
        x.pass(23);
        CHECK.dueCounts("most", x, 6, 24, 23, 10, 12, 6000, 30);
    }

    // Promise 22: "5 WATER of all LAYERS" - the first, the last, and none.
    private static void countOfWater() {
        WetWalls x = Check.layers(6);
        CHECK.due("water of dry layers", x.count(5), 0);
        for (int i = 0; i < 6; i++) {
            x.water(i, 1 << i);
            CHECK.due("water of layers 0 to " + i, x.count(5), (1 << i + 1) - 1);
        }
        x.clear();
        CHECK.due("water of no layers", x.count(5), 0);
        x.layer(10, 1, 1, 0);
        CHECK.due("water of a new layer", x.count(5), 0);
    }

    // Promise 22: "2 THE NEXT HOUR", at the wrap-around.
    private static void countOfTheNextHour() {
        WetWalls x = Check.full();
        for (int i = 1; i <= 49; i++) {
            x.pass(1);
            CHECK.due("next hour behind " + i, x.count(2), i % 24);
        }
    }

    private static long longOf(List<Integer> numbers) {
        BigInteger h = BigInteger.valueOf(181);
        for (int v : numbers) {
            h = h.multiply(BigInteger.valueOf(31)).add(BigInteger.valueOf(v));
        }
        return h.longValue();
    }

    private static void add(List<Integer> numbers, int... more) {
        for (int v : more) {
            numbers.add(v);
        }
    }

    private static List<Integer> firstCurves() {
        List<Integer> numbers = new ArrayList<>();
        for (int curve = 0; curve < 3; curve++) {
            add(numbers, 0, 250, 500, 750, 1000);
        }
        return numbers;
    }

    // Promise 23, with no LAYERS, HOURS, READINGS.
    private static void digestOfANewObject() {
        List<Integer> numbers = firstCurves();
        add(numbers, 0, 0, 0, 0, 0, 0, 10, 0);
        CHECK.due("digest of a new object", new WetWalls().digest(), longOf(numbers));
    }

    // Promise 23: "(as longs, wrapping)": numbers below 0 count as what they are, too.
    private static void digestWraps() {
        WetWalls x = new WetWalls();
        x.layer(1000, 50, 49, 2);
        x.hour(999, -30, 99, 998, -29);
        x.water(0, 1000);
        x.share(0);
        x.pass(1);
        // Damp 1000 as against 999 and 998, by 51 each: nothing goes; warmth is -30 and half of 1, rounded down.
        List<Integer> numbers = firstCurves();
        add(numbers, 1000, 50, 49, 2, 1000, 1000, 1, 0, -30);
        add(numbers, 999, -30, 99, 998, -29);
        add(numbers, 0, 0, 0, 0, 1000);
        add(numbers, 0, 0, 0);
        CHECK.due("digest wraps", x.digest(), longOf(numbers));
        x.water(0, 0);
        x.fair();
        x.hour(0, 0, 0, 51, 0);
        x.pass(1);
        x.water(0, 0);
        x.water(0, 1);
        x.fair();
        x.hour(0, 0, 0, 0, 0);
        numbers = firstCurves();
        add(numbers, 1000, 50, 49, 2, 1, 1, 1, 0, 0);
        add(numbers, 0, 0, 0, 0, 0);
        add(numbers, 0, 0, 0, 1, 0);
        add(numbers, 0, 0, 0);
        CHECK.due("digest of other sums", x.digest(), longOf(numbers));
    }

    // Promise 23: "of each CURVE .., of each LAYER .., of each HOUR .., of each READING", in order.
    private static void digestOfAFullObject() {
        WetWalls x = Check.full();
        x.corner(0, 0, 3);
        x.corner(1, 2, 600);
        x.corner(2, 4, 990);
        x.water(5, 20);
        x.fits();
        x.pass(31);
        x.share(9);
        List<Integer> numbers = new ArrayList<>();
        add(numbers, 3, 250, 500, 750, 1000, 0, 250, 600, 750, 1000, 0, 250, 500, 750, 990);
        for (int i = 0; i < 6; i++) {
            for (int what = 0; what < 9; what++) {
                add(numbers, x.about(i, what));
            }
        }
        for (int i = 0; i < 24; i++) {
            add(numbers, 40 * i, i - 12, 4 * i, 900 - 30 * i, 30 - i);
        }
        for (int what = 0; what < 5; what++) {
            add(numbers, x.sum(what));
        }
        for (int i = 0; i < 12; i++) {
            add(numbers, i % 6, 1 + i, i, 900 + i);
        }
        add(numbers, 7, 9, 1);
        CHECK.due("digest of a full object", x.digest(), longOf(numbers));
    }

    // Promise 23 tells LAYERS, HOURS, READINGS that there are, none that there were.
    private static void digestLeavesOutWhatIsGone() {
        WetWalls x = Check.full();
        x.pass(40);
        x.clear();
        x.fair();
        CHECK.due("digest behind clear and fair", x.digest(), new WetWalls().digest());
        WetWalls y = Check.layers(2);
        long before = y.digest();
        y.read(0, 1, 0, 0);
        y.hour(1, 2, 3, 4, 5);
        CHECK.due("digest tells what comes", y.digest() == before ? 1 : 0, 0);
        y.forget();
        y.fair();
        CHECK.due("digest behind forget and fair", y.digest(), before);
    }

    private static void digestChangesNothing() {
        CHECK.same("digest", Check::full, WetWalls::digest, Check.full().digest());
        CHECK.same("digest", () -> Check.inUse(3), WetWalls::digest, Check.inUse(3).digest());
    }

    private static final int[] NUMBERS = {
        Integer.MIN_VALUE, -31, -1, 0, 1, 2, 5, 6, 11, 24, 51, 61, 101, 241, 1001, Integer.MAX_VALUE};

    // "Refusals ..; they change nothing": all calls, with numbers on either side of their bounds, in all states.
    private static void refusedCallsChangeNothing() {
        List<Supplier<WetWalls>> states = List.of(WetWalls::new, () -> Check.layers(1), () -> Check.layers(6),
                () -> Check.inUse(1), () -> Check.inUse(6), Check::full, BoundaryTellingTest::hourWithoutLayers);
        for (Supplier<WetWalls> state : states) {
            for (int kind = 0; kind < 15; kind++) {
                sweep(state, kind);
            }
        }
    }

    private static WetWalls hourWithoutLayers() {
        WetWalls x = new WetWalls();
        x.hour(900, -5, 12, 400, 21);
        return x;
    }

    private static void sweep(Supplier<WetWalls> state, int kind) {
        WetWalls x = state.get();
        long digest = x.digest();
        int used = 60;
        for (int a : NUMBERS) {
            for (int b : NUMBERS) {
                int answer = call(x, kind, a, b);
                boolean refused = answer <= -101;
                long now = x.digest();
                if (refused) {
                    CHECK.due("kind " + kind + " with " + a + ", " + b + " refused by " + answer + ", digest", now, digest);
                }
                used += 2;
                if (!refused || used > 500) {
                    x = state.get();
                    used = 60;
                    now = x.digest();
                }
                digest = now;
            }
        }
    }

    private static int call(WetWalls x, int kind, int a, int b) {
        switch (kind) {
            case 0: return x.layer(a, b, 1, 0);
            case 1: return x.layer(1, 1, a, b);
            case 2: return x.corner(a, b, 250);
            case 3: return x.corner(0, a, b);
            case 4: return x.water(a, b);
            case 5: return x.about(a, b);
            case 6: return x.hour(a, b, 0, 0, 0);
            case 7: return x.hour(0, 0, a, b, 0);
            case 8: return x.share(a);
            case 9: return x.pass(a);
            case 10: return x.steady(a);
            case 11: return x.arrange(a);
            case 12: return x.read(a, b, 0, 0);
            case 13: return x.read(0, 1, a, b);
            default: return x.excess(a, b);
        }
    }

    // "NONE = -1, UNKNOWN = -101, OUTSIDE = -102, STATE = -103, FULL = -104".
    private static void constants() {
        CHECK.due("NONE", WetWalls.NONE, -1);
        CHECK.due("UNKNOWN", WetWalls.UNKNOWN, -101);
        CHECK.due("OUTSIDE", WetWalls.OUTSIDE, -102);
        CHECK.due("STATE", WetWalls.STATE, -103);
        CHECK.due("FULL", WetWalls.FULL, -104);
    }
}
