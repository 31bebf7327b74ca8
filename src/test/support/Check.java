import java.util.ArrayList;
import java.util.List;
import java.util.function.Supplier;
import java.util.function.ToLongFunction;

/** What the tests of the boundaries share: answers that are due, and calls that may not change anything. */
final class Check {
    static final int SMALLEST = Integer.MIN_VALUE;
    static final int LARGEST = Integer.MAX_VALUE;

    private int wrong = 0;

    void due(String what, long got, long want) {
        if (got != want) {
            wrong++;
            System.out.println(what + ": answered " + got + ", due is " + want);
        }
    }

    /** What about() tells of a layer, for 0 to 8. */
    void dueAbout(String what, WetWalls x, int layer, int... want) {
        for (int k = 0; k < want.length; k++) {
            due(what + ", about(" + layer + ", " + k + ")", x.about(layer, k), want[k]);
        }
    }

    void dueSums(String what, WetWalls x, int... want) {
        for (int k = 0; k < want.length; k++) {
            due(what + ", sum(" + k + ")", x.sum(k), want[k]);
        }
    }

    void dueCounts(String what, WetWalls x, int... want) {
        for (int k = 0; k < want.length; k++) {
            due(what + ", count(" + k + ")", x.count(k), want[k]);
        }
    }

    /**
     * The call answers as is due, and changes nothing: what the object tells behind it, and what it answers and
     * tells as it goes on, is as with a twin that never got the call.
     */
    void same(String what, Supplier<WetWalls> made, ToLongFunction<WetWalls> call, long want) {
        WetWalls asked = made.get();
        WetWalls twin = made.get();
        due(what, call.applyAsLong(asked), want);
        compare(what + ": what is told", tellings(asked), tellings(twin));
        compare(what + ": how it goes on", goOn(asked), goOn(twin));
    }

    private void compare(String what, List<Long> got, List<Long> want) {
        if (!got.equals(want)) {
            wrong++;
            System.out.println(what + " has changed from " + want + " to " + got);
        }
    }

    private static List<Long> tellings(WetWalls x) {
        List<Long> all = new ArrayList<>();
        all.add(x.digest());
        for (int what = 0; what < 7; what++) {
            all.add((long) x.count(what));
        }
        for (int what = 0; what < 5; what++) {
            all.add((long) x.sum(what));
        }
        for (int i = 0; i < 6; i++) {
            for (int what = 0; what < 9; what++) {
                all.add((long) x.about(i, what));
            }
        }
        return all;
    }

    /** Calls that bring to light what is kept but not told, such as rows behind the last one that counts. */
    private static List<Long> goOn(WetWalls x) {
        List<Long> all = new ArrayList<>();
        all.add((long) x.placed(0, 0));
        all.add((long) x.fits());
        all.add((long) x.pass(7));
        all.add((long) x.layer(77, 3, 4, 1));
        all.add((long) x.hour(640, 3, 50, 310, 19));
        all.add((long) x.read(0, 3, 0, 500));
        all.add((long) x.fits());
        all.add((long) x.pass(30));
        all.add(x.digest());
        all.add((long) x.arrange(0));
        x.fair();
        x.hour(900, -4, 30, 800, -1);
        all.add((long) x.steady(9));
        all.add(x.digest());
        x.clear();
        all.add((long) x.layer(50, 1, 1, 2));
        all.add((long) x.pass(1));
        all.add(x.digest());
        return all;
    }

    /** The numbers just outside of the bounds, and the farthest ones. */
    static int[] beyond(int least, int most) {
        return new int[] {least - 1, most + 1, SMALLEST, LARGEST};
    }

    static int[] ends(int least, int most) {
        return new int[] {least, most};
    }

    void end(String name) {
        System.out.println(wrong == 0 ? name + " hold" : wrong + " answers are wrong");
        System.exit(wrong == 0 ? 0 : 1);
    }

    // ---- walls that tests begin with

    static WetWalls layers(int many) {
        WetWalls x = new WetWalls();
        for (int i = 0; i < many; i++) {
            x.layer(20 + 7 * i, 1 + i, 2 + i, i % 3);
        }
        return x;
    }

    /** Layers with water, three hours of which one has gone by, and a reading. */
    static WetWalls inUse(int many) {
        WetWalls x = layers(many);
        for (int i = 0; i < many; i++) {
            x.water(i, 5 + i);
        }
        x.hour(900, -5, 12, 400, 21);
        x.hour(700, 3, 0, 950, 22);
        x.hour(1000, 12, 30, 500, 20);
        x.read(0, 2, 100, 900);
        x.share(7);
        x.pass(1);
        return x;
    }

    /** Six layers, 24 hours, 12 readings. */
    static WetWalls full() {
        WetWalls x = layers(6);
        for (int i = 0; i < 24; i++) {
            x.hour(40 * i, i - 12, 4 * i, 900 - 30 * i, 30 - i);
        }
        for (int i = 0; i < 12; i++) {
            x.read(i % 6, 1 + i, i, 900 + i);
        }
        return x;
    }

    /** Makes the damp of a curve the same number, whatever a layer holds. */
    static void flatten(WetWalls x, int curve, int damp) {
        for (int k = 0; k < 5; k++) {
            x.corner(curve, k, 0);
        }
        for (int k = 4; k >= 0; k--) {
            x.corner(curve, k, damp);
        }
    }

    /** A layer of curve 0 whose resists are 1 and whose damp is always the same. */
    static WetWalls flatLayer(int room, int damp) {
        WetWalls x = new WetWalls();
        x.layer(room, 1, 1, 0);
        flatten(x, 0, damp);
        return x;
    }
}
