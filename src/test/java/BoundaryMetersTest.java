import java.util.function.Supplier;

/** The boundaries of the meters: promises 19 to 21, and what the terms say of readings and of shares that fit. */
public final class BoundaryMetersTest {
    private static final Check CHECK = new Check();
    private static final int UNKNOWN = WetWalls.UNKNOWN;
    private static final int OUTSIDE = WetWalls.OUTSIDE;
    private static final int STATE = WetWalls.STATE;
    private static final int FULL = WetWalls.FULL;
    private static final int ALL = 2047;

    public static void main(String[] args) {
        readUnknown();
        readBehindFrom1To100();
        readFromZeroToThousand();
        readAAtMostB();
        twelveReadings();
        readUnknownAheadOfOutside();
        readRefusalsAheadOfFull();
        forgetNothing();
        forgetTwelve();
        fitsWithoutReadings();
        fitsFromAToB();
        fitsAllReadings();
        fitsFirstAndLastShare();
        fitsBehindOneHour();
        fitsBehindAHundredHours();
        fitsFromNowOn();
        fitsBehindTheLastHour();
        fitsWhateverTheShare();
        fitsByEachCurve();
        fitsByEachLayer();
        fitsChangesNothing();
        fitsState();
        fitsThirtyTimes();
        fitsThirtyTimesForGood();
        CHECK.end("the meters' boundaries");
    }

    // Promise 19: "UNKNOWN: LAYER".
    private static void readUnknown() {
        CHECK.same("read without layers", WetWalls::new, x -> x.read(0, 1, 0, 0), UNKNOWN);
        for (int n : new int[] {1, 6}) {
            for (int i : Check.beyond(0, n - 1)) {
                CHECK.same("read of layer " + i + " of " + n, () -> Check.inUse(n), x -> x.read(i, 1, 0, 0), UNKNOWN);
            }
            CHECK.due("read of the last layer", Check.layers(n).read(n - 1, 1, 0, 0), 1);
            CHECK.due("read of the first layer", Check.layers(n).read(0, 1, 0, 0), 1);
        }
        CHECK.same("read behind clear", () -> {
            WetWalls x = Check.inUse(3);
            x.clear();
            return x;
        }, x -> x.read(0, 1, 0, 0), UNKNOWN);
    }

    /** A reading is told by digest() alone: its numbers come last but for three. */
    private static void dueReading(int behind, int a, int b) {
        WetWalls x = Check.layers(2);
        long before = x.digest();
        CHECK.due("reading", x.read(1, behind, a, b), 1);
        long tail = 10 * 31;
        long factor = 31 * 31 * 31;
        long head = (before - tail) * inverse(factor);
        long h = (((head * 31 + 1) * 31 + behind) * 31 + a) * 31 + b;
        CHECK.due("reading behind " + behind + " from " + a + " to " + b, x.digest(), h * factor + tail);
    }

    /** Of an odd number, as longs that wrap. */
    private static long inverse(long odd) {
        long v = odd;
        for (int k = 0; k < 6; k++) {
            v *= 2 - odd * v;
        }
        return v;
    }

    // "behind so many HOURS (1 to 100)"; promise 19: "OUTSIDE: behind".
    private static void readBehindFrom1To100() {
        for (int behind : Check.ends(1, 100)) {
            dueReading(behind, 5, 6);
        }
        for (int behind : Check.beyond(1, 100)) {
            CHECK.same("read behind " + behind, () -> Check.inUse(2), x -> x.read(1, behind, 0, 1000), OUTSIDE);
        }
    }

    // Promise 19: "a, b (0 to 1000 ..)".
    private static void readFromZeroToThousand() {
        dueReading(3, 0, 1000);
        dueReading(3, 0, 0);
        dueReading(3, 1000, 1000);
        for (int v : Check.beyond(0, 1000)) {
            CHECK.same("read with a = " + v, () -> Check.inUse(2), x -> x.read(1, 1, v, 1000), OUTSIDE);
            CHECK.same("read with b = " + v, () -> Check.inUse(2), x -> x.read(1, 1, 0, v), OUTSIDE);
            CHECK.same("read with both = " + v, () -> Check.inUse(2), x -> x.read(1, 1, v, v), OUTSIDE);
        }
    }

    // Promise 19: "a at most b".
    private static void readAAtMostB() {
        dueReading(3, 500, 500);
        dueReading(3, 499, 500);
        CHECK.same("read from 501 to 500", () -> Check.inUse(2), x -> x.read(1, 1, 501, 500), OUTSIDE);
        CHECK.same("read from 1 to 0", () -> Check.inUse(2), x -> x.read(1, 1, 1, 0), OUTSIDE);
        CHECK.same("read from 1000 to 999", () -> Check.inUse(2), x -> x.read(1, 1, 1000, 999), OUTSIDE);
        CHECK.same("read from 1000 to 0", () -> Check.inUse(2), x -> x.read(1, 1, 1000, 0), OUTSIDE);
    }

    // "READINGS (12 at most)"; promise 19: "how many"; "FULL".
    private static void twelveReadings() {
        WetWalls x = Check.layers(6);
        for (int i = 1; i <= 12; i++) {
            CHECK.due("reading " + i, x.read(i % 6, i, i, i), i);
        }
        CHECK.due("a 13th reading", x.read(0, 1, 0, 1000), FULL);
        CHECK.due("twelve stay", x.count(4), 12);
        CHECK.same("a 13th reading", Check::full, y -> y.read(0, 1, 0, 1000), FULL);
        CHECK.same("a 13th reading that is as another", Check::full, y -> y.read(0, 1, 0, 900), FULL);
    }

    // Promise 19: "UNKNOWN: LAYER; OUTSIDE" - in this order.
    private static void readUnknownAheadOfOutside() {
        CHECK.same("no layer, behind 0", () -> Check.inUse(2), x -> x.read(2, 0, 0, 0), UNKNOWN);
        CHECK.same("no layer, a above b", () -> Check.inUse(2), x -> x.read(-1, 1, 2, 1), UNKNOWN);
        CHECK.same("no layers, b above 1000", WetWalls::new, x -> x.read(0, 1, 0, 1001), UNKNOWN);
    }

    // Promise 19: "UNKNOWN ..; OUTSIDE ..; FULL" - in this order.
    private static void readRefusalsAheadOfFull() {
        CHECK.same("full, no layer", Check::full, x -> x.read(6, 1, 0, 0), UNKNOWN);
        CHECK.same("full, no layer, all outside", Check::full, x -> x.read(-1, 0, -1, 1001), UNKNOWN);
        CHECK.same("full, behind 0", Check::full, x -> x.read(0, 0, 0, 0), OUTSIDE);
        CHECK.same("full, behind 101", Check::full, x -> x.read(0, 101, 0, 0), OUTSIDE);
        CHECK.same("full, a below 0", Check::full, x -> x.read(0, 1, -1, 0), OUTSIDE);
        CHECK.same("full, b above 1000", Check::full, x -> x.read(0, 1, 0, 1001), OUTSIDE);
        CHECK.same("full, a above b", Check::full, x -> x.read(0, 1, 1, 0), OUTSIDE);
    }

    // Promise 20: "how many there were" - none.
    private static void forgetNothing() {
        CHECK.same("forget of a new object", WetWalls::new, WetWalls::forget, 0);
        CHECK.same("forget without readings", () -> {
            WetWalls x = Check.inUse(3);
            x.forget();
            return x;
        }, WetWalls::forget, 0);
    }

    // Promise 20: "No READINGS", and nothing else.
    private static void forgetTwelve() {
        WetWalls x = Check.full();
        x.pass(3);
        int water = x.count(5);
        CHECK.due("forget twelve", x.forget(), 12);
        CHECK.dueCounts("forget twelve", x, 6, 24, 3, 10, 0, water, 0);
        CHECK.due("forget: no reading tells", x.fits(), ALL);
        for (int i = 1; i <= 12; i++) {
            CHECK.due("forget: twelve have place again", x.read(5, i, 0, 1000), i);
        }
        CHECK.due("forget: but no more", x.read(5, 1, 0, 1000), FULL);
    }

    /** Behind one hour its damp is 10 times the share up to 5, then 58, 68, 78, 88, 98. */
    private static WetWalls slowLayer() {
        WetWalls x = new WetWalls();
        x.layer(1000, 50, 1, 0);
        x.hour(0, 0, 100, 0, 0);
        return x;
    }

    private static int fitsWith(int behind, int a, int b) {
        WetWalls x = slowLayer();
        x.read(0, behind, a, b);
        return x.fits();
    }

    // "A SHARE FITS, if with it all READINGS would be so" - none, so all do.
    private static void fitsWithoutReadings() {
        CHECK.due("fits without readings", slowLayer().fits(), ALL);
        CHECK.due("fits with a reading of all", fitsWith(1, 0, 1000), ALL);
        CHECK.due("fits with a reading of all, behind 100", fitsWith(100, 0, 1000), ALL);
        CHECK.due("fits with none", fitsWith(1, 99, 1000), 0);
    }

    // "DAMP of a LAYER is from a to b": both are in it.
    private static void fitsFromAToB() {
        CHECK.due("fits from 30 to 40", fitsWith(1, 30, 40), 8 + 16);
        CHECK.due("fits from 31 to 40", fitsWith(1, 31, 40), 16);
        CHECK.due("fits from 30 to 39", fitsWith(1, 30, 39), 8);
        CHECK.due("fits from 31 to 39", fitsWith(1, 31, 39), 0);
        CHECK.due("fits from 30 to 30", fitsWith(1, 30, 30), 8);
        CHECK.due("fits from 29 to 41", fitsWith(1, 29, 41), 8 + 16);
        WetWalls full = Check.flatLayer(5, 1000);
        full.hour(1000, 0, 0, 1000, 0);
        full.read(0, 1, 1000, 1000);
        CHECK.due("fits from 1000 to 1000", full.fits(), ALL);
        full.forget();
        full.read(0, 1, 0, 999);
        CHECK.due("fits from 0 to 999", full.fits(), 0);
    }

    // "all READINGS would be so": the first, the last, and those between.
    private static void fitsAllReadings() {
        for (int place = 0; place < 12; place++) {
            WetWalls x = slowLayer();
            for (int i = 0; i < 12; i++) {
                x.read(0, 1, i == place ? 30 : 0, i == place ? 40 : 1000);
            }
            CHECK.due("fits with reading " + place, x.fits(), 8 + 16);
        }
        WetWalls y = slowLayer();
        y.read(0, 1, 20, 1000);
        y.read(0, 1, 0, 68);
        CHECK.due("fits two", y.fits(), 4 + 8 + 16 + 32 + 64 + 128);
        y.read(0, 2, 0, 1000);
        y.read(0, 1, 50, 58);
        CHECK.due("fits three", y.fits(), 32 + 64);
        y.read(0, 1, 10, 20);
        CHECK.due("fits what can't be so", y.fits(), 0);
    }

    // "Which SHARES FIT, as bits": bit 0 to bit 10.
    private static void fitsFirstAndLastShare() {
        int[] damps = {0, 10, 20, 30, 40, 50, 58, 68, 78, 88, 98};
        for (int share = 0; share <= 10; share++) {
            CHECK.due("fits share " + share, fitsWith(1, damps[share], damps[share]), 1 << share);
        }
    }

    /** 24 hours, of which one has a drop of rain, that comes with the whole share alone; damp is water. */
    private static WetWalls oneDrop(int rainyHour) {
        WetWalls x = new WetWalls();
        x.layer(1000, 50, 1, 0);
        for (int i = 0; i < 24; i++) {
            x.hour(0, 0, i == rainyHour ? 1 : 0, 0, 0);
        }
        return x;
    }

    // "behind so many HOURS (1 ..": the first one has gone by, and no other.
    private static void fitsBehindOneHour() {
        WetWalls x = oneDrop(0);
        x.read(0, 1, 1, 1);
        CHECK.due("the first hour has gone by", x.fits(), 1024);
        WetWalls y = oneDrop(1);
        y.read(0, 1, 1, 1);
        CHECK.due("the second has not", y.fits(), 0);
        y.forget();
        y.read(0, 2, 1, 1);
        CHECK.due("behind two it has", y.fits(), 1024);
    }

    // ".. to 100)": hour 3 is the fourth, and the hundredth.
    private static void fitsBehindAHundredHours() {
        WetWalls x = oneDrop(3);
        x.read(0, 100, 5, 5);
        CHECK.due("behind 100 hours", x.fits(), 1024);
        x.read(0, 99, 4, 4);
        CHECK.due("behind 99 and 100 hours", x.fits(), 1024);
        x.forget();
        x.read(0, 99, 5, 5);
        CHECK.due("behind 99 hours", x.fits(), 0);
        WetWalls y = oneDrop(4);
        y.read(0, 100, 4, 4);
        CHECK.due("the hour behind the hundredth has not gone by", y.fits(), 1024);
    }

    // "from now on": from THE NEXT HOUR, and from the water there is now.
    private static void fitsFromNowOn() {
        WetWalls x = oneDrop(5);
        x.read(0, 1, 1, 1);
        CHECK.due("five hours ahead of rain", x.fits(), 0);
        x.pass(5);
        CHECK.due("just ahead of rain", x.fits(), 1024);
        x.share(0);
        x.pass(1);
        CHECK.due("behind rain that did not come", x.fits(), 0);
        x.water(0, 1);
        CHECK.due("with water by hand", x.fits(), ALL);
    }

    // "THE NEXT HOUR is HOUR 0 .. behind the last one", for fits() too.
    private static void fitsBehindTheLastHour() {
        WetWalls x = oneDrop(0);
        x.share(0);
        x.pass(23);
        x.read(0, 1, 0, 0);
        x.read(0, 2, 1, 1);
        CHECK.due("behind the last hour comes hour 0", x.fits(), 1024);
        CHECK.due("the next hour is still the last one", x.count(2), 23);
        WetWalls one = slowLayer();
        one.read(0, 2, 20, 20);
        CHECK.due("of one hour, again hour 0", one.fits(), 2);
    }

    // SHARES 0 to 10 are tried, whatever SHARE is.
    private static void fitsWhateverTheShare() {
        for (int share : Check.ends(0, 10)) {
            WetWalls x = slowLayer();
            x.share(share);
            x.read(0, 1, 30, 68);
            CHECK.due("fits with share " + share, x.fits(), 8 + 16 + 32 + 64 + 128);
            CHECK.due("share stays " + share, x.count(3), share);
        }
    }

    // DAMP by the LAYER's own CURVE, as its CORNERS are now.
    private static void fitsByEachCurve() {
        for (int curve = 0; curve < 3; curve++) {
            WetWalls x = new WetWalls();
            x.layer(10, 50, 1, curve);
            x.hour(0, 0, 0, 0, 0);
            x.fits();
            Check.flatten(x, curve, 40);
            x.read(0, 1, 40, 40);
            CHECK.due("fits by curve " + curve, x.fits(), ALL);
            x.corner(curve, 0, 39);
            CHECK.due("fits by another corner of curve " + curve, x.fits(), 0);
            x.clear();
            x.layer(10, 50, 1, (curve + 1) % 3);
            x.read(0, 1, 0, 0);
            CHECK.due("fits by a curve that is not " + curve, x.fits(), ALL);
        }
    }

    // "DAMP of a LAYER": the one that is told, from the first to the last.
    private static void fitsByEachLayer() {
        for (int i = 0; i < 6; i++) {
            WetWalls x = new WetWalls();
            for (int k = 0; k < 6; k++) {
                x.layer(100, 50, 1, 0);
                x.water(k, k);
            }
            x.hour(0, 0, 0, 0, 0);
            // Damp is ten times water, and 50 is too little to go anywhere.
            x.read(i, 1, 10 * i, 10 * i);
            CHECK.due("fits by layer " + i, x.fits(), ALL);
            x.read(i, 1, 10 * i + 1, 1000);
            CHECK.due("does not fit by layer " + i, x.fits(), 0);
        }
    }

    // Promise 21: "nothing is changed" - but how often it was done, which digest() tells last.
    private static void fitsChangesNothing() {
        WetWalls x = Check.full();
        x.water(3, 40);
        x.pass(5);
        WetWalls twin = Check.full();
        twin.water(3, 40);
        twin.pass(5);
        x.fits();
        CHECK.due("fits: how often", x.count(6), 1);
        CHECK.due("fits: digest", x.digest(), twin.digest() + 1);
        CHECK.due("fits: then pass", x.pass(9), twin.pass(9));
        CHECK.due("fits: then digest", x.digest(), twin.digest() + 1);
        CHECK.due("fits: then the same", x.fits(), twin.fits());
    }

    private static WetWalls hourWithoutLayers() {
        WetWalls x = new WetWalls();
        x.hour(900, -5, 12, 400, 21);
        return x;
    }

    // Promise 21: "STATE: as pass()" - and what is refused is not done, so not counted.
    private static void fitsState() {
        CHECK.same("fits of nothing", WetWalls::new, WetWalls::fits, STATE);
        CHECK.same("fits without layers", BoundaryMetersTest::hourWithoutLayers, WetWalls::fits, STATE);
        CHECK.same("fits without hours", () -> Check.layers(2), WetWalls::fits, STATE);
        WetWalls x = hourWithoutLayers();
        for (int i = 0; i < 40; i++) {
            x.fits();
        }
        CHECK.due("fits: refusals are not counted", x.count(6), 0);
        x.layer(5, 5, 5, 0);
        CHECK.due("fits: refusals do no harm", x.fits(), ALL);
        CHECK.due("fits within a round is not refused", Check.inUse(2).fits() >= 0 ? 1 : 0, 1);
    }

    // Promise 21: "or it was done 30 times".
    private static void fitsThirtyTimes() {
        WetWalls x = slowLayer();
        for (int i = 1; i <= 30; i++) {
            CHECK.due("fits for time " + i, x.fits(), ALL);
            CHECK.due("fits: how often", x.count(6), i);
        }
        CHECK.due("fits for time 31", x.fits(), STATE);
        CHECK.due("fits: how often", x.count(6), 30);
        CHECK.same("fits for time 31", doneThirtyTimes(), WetWalls::fits, STATE);
    }

    private static Supplier<WetWalls> doneThirtyTimes() {
        return () -> {
            WetWalls x = Check.inUse(2);
            for (int i = 0; i < 30; i++) {
                x.fits();
            }
            return x;
        };
    }

    // The same: no call is told to make that undone.
    private static void fitsThirtyTimesForGood() {
        WetWalls x = doneThirtyTimes().get();
        x.forget();
        CHECK.due("fits behind forget", x.fits(), STATE);
        x.fair();
        x.clear();
        x.layer(5, 5, 5, 0);
        x.hour(0, 0, 0, 0, 0);
        CHECK.due("fits behind clear and fair", x.fits(), STATE);
        CHECK.due("fits: how often", x.count(6), 30);
        CHECK.due("all else goes on", x.pass(1), 0);
    }
}
