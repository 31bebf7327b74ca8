import java.util.function.Supplier;

/** The boundaries of the old way: promises 13 to 18, and what the terms say of saturation, seams and the best order. */
public final class BoundaryOldWayTest {
    private static final Check CHECK = new Check();
    private static final int UNKNOWN = WetWalls.UNKNOWN;
    private static final int STATE = WetWalls.STATE;
    private static final int FAR_UNKNOWN = -10101;
    private static final int FAR_STATE = -10103;

    public static void main(String[] args) {
        saturationBelowZero();
        pressureOutsideIsRoundedDown();
        pressureInsideIsRoundedDown();
        pressureAtASeamIsRoundedDown();
        seamsOfThreeAreRoundedDown();
        pressureOfTheFarthestNumbers();
        warmthAtASeamIsRoundedDown();
        warmthOfTheFarthestNumbers();
        facesOfOneLayer();
        unknownHour();
        unknownHourAheadOfState();
        stateWithoutLayers();
        stateAheadOfTheSeam();
        unknownFace();
        unknownSeam();
        noSeamInOneLayer();
        excessZeroIfBelow();
        excessBySaturationBelowZero();
        bestOfOneLayer();
        bestIsTheLeast();
        bestIsTheLeastOfAllTogether();
        bestOfFewBehindBestOfMany();
        bestOfSeveralTheLeastNumbers();
        bestOfSeveralThenTheSecond();
        bestChangesNothing();
        placedNone();
        arrangeNoneChanged();
        arrangeAllChanged();
        arrangeThreeChanged();
        arrangeWithAllTheyHave();
        readingsAndSumsStay();
        readingsKeepTheirNumber();
        CHECK.end("the old way's boundaries");
    }

    private static WetWalls walls(int many, int steam, int heat) {
        WetWalls x = new WetWalls();
        for (int i = 0; i < many; i++) {
            x.layer(10, steam, heat, 0);
        }
        return x;
    }

    private static int pressureOutside(int damp, int warmth) {
        WetWalls x = walls(2, 1, 1);
        x.hour(damp, warmth, 0, 0, 0);
        return x.pressure(0, 0);
    }

    private static int pressureInside(int damp, int warmth) {
        WetWalls x = walls(2, 1, 1);
        x.hour(0, 0, 0, damp, warmth);
        return x.pressure(0, 2);
    }

    // "SATURATION of WARMTH T is 600 and 40 T, or 600 and 20 T, if T is below 0."
    private static void saturationBelowZero() {
        int[][] warmthAndSaturation = {{-30, 0}, {-29, 20}, {-2, 560}, {-1, 580}, {0, 600}, {1, 640}, {49, 2560}, {50, 2600}};
        for (int[] v : warmthAndSaturation) {
            CHECK.due("saturation of " + v[0] + " outside", pressureOutside(1000, v[0]), v[1]);
            CHECK.due("saturation of " + v[0] + " inside", pressureInside(1000, v[0]), v[1]);
        }
    }

    private static final int[][] DAMP_WARMTH_PRESSURE = {
        {0, 50, 0}, {1, 0, 0}, {1, 9, 0}, {1, 10, 1}, {1, 50, 2}, {999, 0, 599}, {999, 10, 999}, {999, -30, 0},
        {999, -29, 19}, {999, -1, 579}, {999, 50, 2597}, {501, -1, 290}};

    // "PRESSURE outside, inside: DAMP times SATURATION by 1000, rounded down."
    private static void pressureOutsideIsRoundedDown() {
        for (int[] v : DAMP_WARMTH_PRESSURE) {
            CHECK.due("pressure outside of " + v[0] + " at " + v[1], pressureOutside(v[0], v[1]), v[2]);
        }
    }

    private static void pressureInsideIsRoundedDown() {
        for (int[] v : DAMP_WARMTH_PRESSURE) {
            CHECK.due("pressure inside of " + v[0] + " at " + v[1], pressureInside(v[0], v[1]), v[2]);
        }
    }

    // "PRESSURE outside and, rounded down, (inside less outside) times .. by ..": by 4, at seam 1 twice of it.
    private static void pressureAtASeamIsRoundedDown() {
        int[][] dampsAndPressure = {{10, 11, 10}, {10, 12, 11}, {11, 10, 10}, {12, 10, 11}, {13, 10, 11}, {10, 10, 10}, {0, 1, 0}, {1, 0, 0}};
        for (int[] v : dampsAndPressure) {
            WetWalls x = walls(2, 1, 7);
            // At 10 saturation is 1000, so that pressure is damp.
            x.hour(v[0], 10, 0, v[1], 10);
            CHECK.due("pressure from " + v[0] + " to " + v[1], x.pressure(0, 1), v[2]);
        }
    }

    // The same by 5: twice, and three times, of a difference from -6 to 6.
    private static void seamsOfThreeAreRoundedDown() {
        int[] twice = {-3, -2, -2, -2, -1, -1, 0, 0, 0, 1, 1, 2, 2};
        int[] thrice = {-4, -3, -3, -2, -2, -1, 0, 0, 1, 1, 2, 3, 3};
        for (int k = 0; k <= 12; k++) {
            WetWalls x = walls(3, 1, 1);
            x.hour(10, 10, 0, 4 + k, 10);
            x.hour(0, 0, 0, 0, k - 6);
            CHECK.due("pressure by " + (k - 6) + ", seam 1", x.pressure(0, 1), 10 + twice[k]);
            CHECK.due("pressure by " + (k - 6) + ", seam 2", x.pressure(0, 2), 10 + thrice[k]);
            CHECK.due("warmth by " + (k - 6) + ", seam 1", x.warmth(1, 1), twice[k]);
            CHECK.due("warmth by " + (k - 6) + ", seam 2", x.warmth(1, 2), thrice[k]);
        }
    }

    // 2600 times 51, 101, .., 251 by 302, up and down.
    private static void pressureOfTheFarthestNumbers() {
        WetWalls x = walls(6, 50, 1);
        x.hour(0, 50, 0, 1000, 50);
        x.hour(1000, 50, 0, 0, 50);
        int[] up = {0, 439, 869, 1300, 1730, 2160, 2600};
        int[] down = {2600, 2160, 1730, 1300, 869, 439, 0};
        for (int face = 0; face <= 6; face++) {
            CHECK.due("pressure up at " + face, x.pressure(0, face), up[face]);
            CHECK.due("pressure down at " + face, x.pressure(1, face), down[face]);
        }
    }

    // "WARMTH likewise by HEAT RESISTS."
    private static void warmthAtASeamIsRoundedDown() {
        int[][] warmths = {{0, 1, 0}, {0, -1, -1}, {-1, 0, -1}, {1, 0, 0}, {0, 2, 1}, {0, -2, -1}, {0, -3, -2}, {-30, -30, -30}, {50, 50, 50}};
        for (int[] v : warmths) {
            WetWalls x = walls(2, 7, 1);
            x.hour(0, v[0], 0, 0, v[1]);
            CHECK.due("warmth from " + v[0] + " to " + v[1], x.warmth(0, 1), v[2]);
        }
    }

    // 80 times 51, 101, .., 251 by 302, up and down.
    private static void warmthOfTheFarthestNumbers() {
        WetWalls x = walls(6, 1, 50);
        x.hour(0, -30, 0, 0, 50);
        x.hour(0, 50, 0, 0, -30);
        int[] up = {-30, -17, -4, 10, 23, 36, 50};
        int[] down = {50, 36, 23, 10, -4, -17, -30};
        for (int face = 0; face <= 6; face++) {
            CHECK.due("warmth up at " + face, x.warmth(0, face), up[face]);
            CHECK.due("warmth down at " + face, x.warmth(1, face), down[face]);
        }
    }

    // Promises 13, 14: "(0 outside, n inside)", n being 1.
    private static void facesOfOneLayer() {
        WetWalls x = walls(1, 50, 50);
        x.hour(1000, -10, 0, 500, 10);
        CHECK.due("pressure outside of one layer", x.pressure(0, 0), 400);
        CHECK.due("pressure inside of one layer", x.pressure(0, 1), 500);
        CHECK.due("warmth outside of one layer", x.warmth(0, 0), -10);
        CHECK.due("warmth inside of one layer", x.warmth(0, 1), 10);
    }

    /** All calls of the old way answer alike and change nothing; near and far tell the same refusal. */
    private static void refuse(String what, Supplier<WetWalls> made, int hour, int face, int near) {
        int far = near - 10000;
        CHECK.same(what + ", pressure", made, x -> x.pressure(hour, face), far);
        CHECK.same(what + ", warmth", made, x -> x.warmth(hour, face), far);
        CHECK.same(what + ", excess", made, x -> x.excess(hour, face), near);
        CHECK.same(what + ", best", made, x -> x.best(hour), near);
        CHECK.same(what + ", placed", made, x -> x.placed(hour, face), near);
        CHECK.same(what + ", arrange", made, x -> x.arrange(hour), near);
    }

    // "the old way: UNKNOWN: HOUR"; promise 13: "here -10101, -10103, -10101".
    private static void unknownHour() {
        for (int hour : Check.beyond(0, 2)) {
            refuse("hour " + hour + " of 3", () -> Check.inUse(3), hour, 1, UNKNOWN);
        }
        for (int hour : Check.beyond(0, 23)) {
            refuse("hour " + hour + " of 24", Check::full, hour, 1, UNKNOWN);
        }
        refuse("hour 0 of none", () -> Check.layers(3), 0, 1, UNKNOWN);
        refuse("hour 0 behind fair", () -> {
            WetWalls x = Check.inUse(3);
            x.fair();
            return x;
        }, 0, 1, UNKNOWN);
        WetWalls last = Check.full();
        CHECK.due("the last hour is known", last.warmth(23, 0), 11);
        CHECK.due("the first hour is known", last.warmth(0, 0), -12);
    }

    // "UNKNOWN: HOUR; STATE" - in this order.
    private static void unknownHourAheadOfState() {
        refuse("no hour, no layers", WetWalls::new, 0, 0, UNKNOWN);
        refuse("no such hour, no layers", BoundaryOldWayTest::hourWithoutLayers, 1, 0, UNKNOWN);
        refuse("no such hour, no layers", BoundaryOldWayTest::hourWithoutLayers, -1, -1, UNKNOWN);
    }

    private static WetWalls hourWithoutLayers() {
        WetWalls x = new WetWalls();
        x.hour(900, -5, 12, 400, 21);
        return x;
    }

    // "STATE: there are no LAYERS."
    private static void stateWithoutLayers() {
        refuse("no layers", BoundaryOldWayTest::hourWithoutLayers, 0, 0, STATE);
        refuse("no layers behind clear", () -> {
            WetWalls x = Check.inUse(3);
            x.clear();
            return x;
        }, 2, 1, STATE);
    }

    // Promise 13: "STATE; UNKNOWN: SEAM"; promise 15: "STATE, ahead of the SEAM"; promise 17: NONE is no refusal.
    private static void stateAheadOfTheSeam() {
        for (int face : Check.beyond(0, 6)) {
            refuse("no layers, face " + face, BoundaryOldWayTest::hourWithoutLayers, 0, face, STATE);
        }
    }

    // Promises 13, 14: a SEAM, "0 outside, n inside".
    private static void unknownFace() {
        for (int n : new int[] {1, 2, 6}) {
            for (int face : Check.beyond(0, n)) {
                String what = "face " + face + " of " + n;
                CHECK.same(what + ", pressure", () -> Check.inUse(n), x -> x.pressure(1, face), FAR_UNKNOWN);
                CHECK.same(what + ", warmth", () -> Check.inUse(n), x -> x.warmth(1, face), FAR_UNKNOWN);
            }
            CHECK.same("pressure inside", () -> Check.inUse(n), x -> x.pressure(1, n), 1406);
            CHECK.same("warmth inside", () -> Check.inUse(n), x -> x.warmth(1, n), 22);
            CHECK.same("pressure outside", () -> Check.inUse(n), x -> x.pressure(1, 0), 504);
            CHECK.same("warmth outside", () -> Check.inUse(n), x -> x.warmth(1, 0), 3);
        }
        CHECK.due("far refusals", WetWalls.STATE - 10000, FAR_STATE);
    }

    // Promise 15: "UNKNOWN: .. SEAM (1 to n less 1)".
    private static void unknownSeam() {
        for (int n : new int[] {2, 6}) {
            for (int face : Check.beyond(1, n - 1)) {
                CHECK.same("excess of seam " + face + " of " + n, () -> Check.inUse(n), x -> x.excess(1, face), UNKNOWN);
            }
            WetWalls x = walls(n, 1, 1);
            x.hour(1000, -30, 0, 1000, 50);
            CHECK.due("excess of the first seam is told", x.excess(0, 1) > 0 ? 1 : 0, 1);
            CHECK.due("excess of the last seam is told", x.excess(0, n - 1) > 0 ? 1 : 0, 1);
        }
    }

    // The same, n being 1: there is no SEAM.
    private static void noSeamInOneLayer() {
        for (int face : new int[] {0, 1, 2, -1, Check.SMALLEST, Check.LARGEST}) {
            CHECK.same("excess of face " + face + " of one", () -> Check.inUse(1), x -> x.excess(1, face), UNKNOWN);
        }
    }

    private static int excessWith(int outside, int inside, int dampInside) {
        WetWalls x = walls(2, 1, 1);
        x.hour(1000, outside, 0, dampInside, inside);
        return x.excess(0, 1);
    }

    // "EXCESS of a SEAM: PRESSURE less SATURATION there, 0 if that is below 0."
    private static void excessZeroIfBelow() {
        // At the seam it is 0 warm; pressure 400 outside, damp being pressure inside.
        int[][] dampAndExcess = {{0, 0}, {798, 0}, {799, 0}, {800, 0}, {801, 0}, {802, 1}, {803, 1}, {804, 2}, {1000, 100}};
        for (int[] v : dampAndExcess) {
            CHECK.due("excess with damp " + v[0] + " inside", excessWith(-10, 10, v[0]), v[1]);
        }
    }

    // SATURATION "there": where warmth at the seam is just below 0, and just not.
    private static void excessBySaturationBelowZero() {
        // 380 and half of 580, less 580; 400 and half of 600, less 600.
        CHECK.due("excess at -1", excessWith(-11, 9, 1000), 90);
        CHECK.due("excess at 0", excessWith(-10, 10, 1000), 100);
        // -9 and half of 21 is 1: 420 and half of 660, less 640.
        CHECK.due("excess at 1", excessWith(-9, 12, 1000), 110);
        // -10 and half of 19, rounded down, is -1: 400 and half of 560, less 580.
        CHECK.due("excess where warmth is rounded down to -1", excessWith(-10, 9, 1000), 100);
    }

    // Promise 16, n being 1: no SEAMS, so no EXCESS, and one order.
    private static void bestOfOneLayer() {
        Supplier<WetWalls> one = () -> {
            WetWalls x = walls(1, 50, 1);
            x.hour(1000, -30, 0, 1000, 50);
            return x;
        };
        CHECK.same("best of one", one, x -> x.best(0), 0);
        CHECK.same("placed of one", one, x -> x.placed(0, 0), 0);
        CHECK.same("placed of one, second", one, x -> x.placed(0, 1), WetWalls.NONE);
        CHECK.same("arrange of one", one, x -> x.arrange(0), 0);
    }

    /** Layers of steam and heat as told, and an hour that is cold outside and damp inside. */
    private static WetWalls winter(int[][] steamAndHeat) {
        WetWalls x = new WetWalls();
        for (int i = 0; i < steamAndHeat.length; i++) {
            x.layer(100 + i, steamAndHeat[i][0], steamAndHeat[i][1], i % 3);
        }
        x.hour(800, -10, 0, 600, 20);
        return x;
    }

    private static void duePlaces(String what, WetWalls x, int... want) {
        for (int i = 0; i < want.length; i++) {
            CHECK.due(what + ", place " + i, x.placed(0, i), want[i]);
        }
    }

    private static int excessOfAll(WetWalls x, int seams) {
        int all = 0;
        for (int face = 1; face <= seams; face++) {
            all += x.excess(0, face);
        }
        return all;
    }

    // "so that EXCESS of all SEAMS together is least".
    private static void bestIsTheLeast() {
        WetWalls x = winter(new int[][] {{10, 1}, {1, 10}});
        CHECK.due("as it stands", excessOfAll(x, 1), 280);
        CHECK.due("best", x.best(0), 0);
        duePlaces("best", x, 1, 0);
        WetWalls six = winter(new int[][] {{50, 1}, {40, 2}, {30, 5}, {20, 9}, {10, 30}, {1, 50}});
        int best = six.best(0);
        CHECK.due("best of six is less than as it stands", best < excessOfAll(six, 5) ? 1 : 0, 1);
        six.arrange(0);
        CHECK.due("best of six, once it stands so", excessOfAll(six, 5), best);
    }

    /** The hardest hour there is: pressure is 0 outside and 2600 inside. */
    private static WetWalls hardest(int many, int[][] steamAndHeat) {
        WetWalls x = new WetWalls();
        for (int i = 0; i < many; i++) {
            x.layer(100 + i, steamAndHeat[i][0], steamAndHeat[i][1], 0);
        }
        x.hour(1000, -30, 0, 1000, 50);
        return x;
    }

    private static final int[][] ALIKE = {{1, 1}, {1, 1}, {1, 1}};
    private static final int[][] GROWING = {{1, 1}, {2, 2}, {3, 3}};

    // "together": the order whose first seam is the best may not be the best one.
    private static void bestIsTheLeastOfAllTogether() {
        // Half way it is 10 warm: 1300 less 1000.
        CHECK.due("best of two alike", hardest(2, ALIKE).best(0), 300);
        // At two fifths it is 2 warm: 1040 less 680; at three fifths 18: 1560 less 1320.
        CHECK.due("best of three alike", hardest(3, ALIKE).best(0), 360 + 240);
        // A seam's excess by the resists ahead of it, 1 to 5: 250, 375, 300, 225, 150.
        WetWalls x = hardest(3, GROWING);
        CHECK.due("as it stands", x.excess(0, 1), 250);
        CHECK.due("as it stands", x.excess(0, 2), 300);
        CHECK.due("best of three that grow", x.best(0), 300 + 150);
        duePlaces("best of three that grow", x, 2, 1, 0);
        CHECK.due("arrange three that grow", x.arrange(0), 2);
        CHECK.due("as it stands then", x.excess(0, 1), 300);
        CHECK.due("as it stands then", x.excess(0, 2), 150);
    }

    // The same, when an object has told of more LAYERS, or of another HOUR, ahead.
    private static void bestOfFewBehindBestOfMany() {
        WetWalls x = hardest(3, GROWING);
        x.best(0);
        x.clear();
        x.layer(10, 1, 1, 0);
        x.layer(10, 1, 1, 0);
        CHECK.due("best of two behind three", x.best(0), 300);
        x.clear();
        x.layer(10, 1, 1, 0);
        CHECK.due("best of one behind two", x.best(0), 0);
        x.layer(10, 1, 1, 0);
        x.layer(10, 1, 1, 0);
        CHECK.due("best of three behind one", x.best(0), 600);
        x.hour(0, 20, 0, 0, 20);
        CHECK.due("best for a dry hour", x.best(1), 0);
        CHECK.due("best for the hardest again", x.best(0), 600);
    }

    // "of several the one whose first LAYER has the least number".
    private static void bestOfSeveralTheLeastNumbers() {
        int[][] alike = {{5, 5}, {5, 5}, {5, 5}, {5, 5}, {5, 5}, {5, 5}};
        WetWalls x = winter(alike);
        duePlaces("six alike", x, 0, 1, 2, 3, 4, 5);
        WetWalls dry = new WetWalls();
        for (int i = 0; i < 6; i++) {
            dry.layer(10, 50 - i, 1 + i, 0);
        }
        dry.hour(0, 20, 0, 0, 20);
        CHECK.due("no excess in any order", dry.best(0), 0);
        duePlaces("no excess in any order", dry, 0, 1, 2, 3, 4, 5);
    }

    // "then the second, and so on".
    private static void bestOfSeveralThenTheSecond() {
        // Layer 2 must be first; of the two tight ones behind it the lesser number comes first.
        WetWalls x = winter(new int[][] {{10, 1}, {10, 1}, {1, 40}});
        CHECK.due("two tight ones", x.best(0), 0);
        duePlaces("two tight ones", x, 2, 0, 1);
        WetWalls y = twoAndTwo();
        CHECK.due("two and two", y.best(0), 0);
        duePlaces("two and two", y, 1, 3, 0, 2);
        // Less damp: now one tight layer may stand ahead of a warm one, so the second is the least that may.
        y.fair();
        y.hour(800, -10, 0, 700, 20);
        CHECK.due("two and two, less damp", y.best(0), 0);
        duePlaces("two and two, less damp", y, 1, 0, 3, 2);
    }

    /** Two tight layers and two warm ones, and so much damp that both warm ones must stand ahead. */
    private static WetWalls twoAndTwo() {
        WetWalls x = winter(new int[][] {{10, 1}, {1, 40}, {10, 1}, {1, 40}});
        x.fair();
        x.hour(800, -10, 0, 1000, 20);
        return x;
    }

    // Promise 16: "nothing is changed".
    private static void bestChangesNothing() {
        Supplier<WetWalls> made = () -> winter(new int[][] {{10, 1}, {1, 10}});
        CHECK.same("best", made, x -> x.best(0), 0);
        CHECK.same("placed", made, x -> x.placed(0, 0), 1);
        CHECK.same("pressure", made, x -> x.pressure(0, 1), 760);
        CHECK.same("warmth", made, x -> x.warmth(0, 1), -6);
        CHECK.same("excess", made, x -> x.excess(0, 1), 280);
    }

    // Promise 17: "NONE: there is none."
    private static void placedNone() {
        for (int n : new int[] {1, 2, 6}) {
            for (int i : Check.beyond(0, n - 1)) {
                CHECK.same("placed " + i + " of " + n, () -> Check.inUse(n), x -> x.placed(1, i), WetWalls.NONE);
            }
            WetWalls x = Check.inUse(n);
            CHECK.due("placed last of " + n, x.placed(1, n - 1) >= 0 && x.placed(1, n - 1) < n ? 1 : 0, 1);
        }
    }

    // Promise 18: "how many changed their place" - none.
    private static void arrangeNoneChanged() {
        Supplier<WetWalls> made = () -> winter(new int[][] {{1, 40}, {5, 5}, {10, 1}});
        CHECK.same("arrange of the best order", made, x -> x.arrange(0), 0);
        CHECK.same("arrange of six alike", () -> winter(new int[][] {{5, 5}, {5, 5}, {5, 5}, {5, 5}, {5, 5}, {5, 5}}),
                x -> x.arrange(0), 0);
    }

    private static void dueRooms(String what, WetWalls x, int... want) {
        for (int i = 0; i < want.length; i++) {
            CHECK.due(what + ", room of layer " + i, x.about(i, 0), want[i]);
        }
    }

    // The same - all of them.
    private static void arrangeAllChanged() {
        WetWalls x = twoAndTwo();
        CHECK.due("arrange two and two", x.arrange(0), 4);
        dueRooms("arrange two and two", x, 101, 103, 100, 102);
        CHECK.due("arrange again", x.arrange(0), 0);
    }

    // The same - some: three go round, each with all it has.
    private static void arrangeThreeChanged() {
        WetWalls x = winter(new int[][] {{10, 1}, {10, 1}, {1, 40}});
        x.water(0, 10);
        x.water(1, 11);
        x.water(2, 12);
        CHECK.due("arrange three", x.arrange(0), 3);
        dueRooms("arrange three", x, 102, 100, 101);
        CHECK.dueAbout("arrange three", x, 0, 102, 1, 40, 2, 12);
        CHECK.dueAbout("arrange three", x, 1, 100, 10, 1, 0, 10);
        CHECK.dueAbout("arrange three", x, 2, 101, 10, 1, 1, 11);
    }

    // Promise 18: "with all they have": frost, mould and warmth too.
    private static void arrangeWithAllTheyHave() {
        WetWalls x = winter(new int[][] {{10, 1}, {1, 40}});
        Check.flatten(x, 0, 900);
        Check.flatten(x, 1, 900);
        x.water(0, 100);
        x.water(1, 99);
        x.fair();
        x.hour(900, -10, 0, 900, 50);
        x.pass(3);
        x.hour(800, -10, 0, 600, 20);
        // From -10 to 50 the whole way is 86: 3 of it to layer 0, and 44 to layer 1.
        CHECK.dueAbout("ahead of arrange", x, 0, 100, 10, 1, 0, 100, 900, 3, 0, -8);
        CHECK.dueAbout("ahead of arrange", x, 1, 101, 1, 40, 1, 99, 900, 0, 3, 20);
        CHECK.due("arrange with all they have", x.arrange(1), 2);
        CHECK.dueAbout("behind arrange", x, 0, 101, 1, 40, 1, 99, 900, 0, 3, 20);
        CHECK.dueAbout("behind arrange", x, 1, 100, 10, 1, 0, 100, 900, 3, 0, -8);
    }

    // Promise 18: "READINGS, sums stay".
    private static void readingsAndSumsStay() {
        Supplier<WetWalls> made = () -> {
            WetWalls x = winter(new int[][] {{10, 1}, {1, 40}});
            x.water(0, 50);
            x.water(1, 7);
            x.pass(1);
            x.read(0, 1, 290, 290);
            return x;
        };
        WetWalls x = made.get();
        WetWalls twin = made.get();
        CHECK.due("arrange two", x.arrange(0), 2);
        for (int what = 0; what < 5; what++) {
            CHECK.due("arrange: sum " + what, x.sum(what), twin.sum(what));
        }
        for (int what = 0; what < 7; what++) {
            CHECK.due("arrange: count " + what, x.count(what), twin.count(what));
        }
        // Behind the next hour layer 0 has damp 290 as it stood, and 227 as the other one stands there now.
        CHECK.due("a reading of layer 0 as it stood", twin.fits(), 2047);
        CHECK.due("a reading of layer 0 as it stands now", x.fits(), 0);
        x.forget();
        x.read(0, 1, 227, 227);
        CHECK.due("another reading of layer 0 as it stands now", x.fits(), 2047);
    }

    // The same: a READING of LAYER 0 stays one of LAYER 0, whichever stands there now; one of LAYER 1 likewise.
    private static void readingsKeepTheirNumber() {
        for (int layer = 0; layer < 2; layer++) {
            WetWalls x = winter(new int[][] {{10, 1}, {1, 40}});
            x.water(0, 50);
            x.water(1, 7);
            x.arrange(0);
            x.pass(1);
            int damp = x.about(layer, 5);

            WetWalls y = winter(new int[][] {{10, 1}, {1, 40}});
            y.water(0, 50);
            y.water(1, 7);
            y.read(layer, 1, damp, damp);
            CHECK.due("a reading of layer " + layer + " ahead of arrange", y.fits(), 0);
            y.arrange(0);
            CHECK.due("a reading of layer " + layer + " behind arrange", y.fits(), 2047);
        }
    }
}
