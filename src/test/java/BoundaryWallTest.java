/** The boundaries of the wall: promises 1 to 6, and what the document's terms say of layers, curves and damp. */
public final class BoundaryWallTest {
    private static final Check CHECK = new Check();
    private static final int UNKNOWN = WetWalls.UNKNOWN;
    private static final int OUTSIDE = WetWalls.OUTSIDE;
    private static final int FULL = WetWalls.FULL;

    public static void main(String[] args) {
        newObjectHasNothing();
        newObjectsShareNothing();
        sixLayers();
        layerZeroIsOutermost();
        layerNumberBounds(0, 1000);
        layerNumberBounds(1, 50);
        layerNumberBounds(2, 50);
        layerNumberBounds(3, 2);
        layerOutsideAheadOfFull();
        layerBeginsDry();
        clearOfNothing();
        clearOfFullWall();
        clearLeavesTheRest();
        layersBehindClearBeginAnew();
        cornersAtFirst();
        cornerUnknown();
        cornerFromZeroToThousand();
        cornerNotBelowTheOneAhead();
        cornerNotAboveTheOneBehind();
        cornerOfItsCurveAlone();
        cornerUnknownAheadOfOutside();
        waterFromZeroToRoom();
        waterUnknown();
        waterUnknownAheadOfOutside();
        waterByHand();
        dampAtTheCorners();
        dampIsRoundedDown();
        dampOfFullAndDry();
        aboutUnknown();
        aboutOutside();
        aboutUnknownAheadOfOutside();
        aboutWarmthAheadOfAnyHour();
        aboutChangesNothing();
        CHECK.end("the wall's boundaries");
    }

    // Promise 1: "No LAYERS, HOURS, READINGS."
    private static void newObjectHasNothing() {
        WetWalls x = new WetWalls();
        CHECK.dueCounts("new", x, 0, 0, 0, 10, 0, 0, 0);
        CHECK.dueSums("new", x, 0, 0, 0, 0, 0);
        CHECK.due("new: no layer 0", x.about(0, 0), UNKNOWN);
        CHECK.due("new: no layer to read", x.read(0, 1, 0, 0), UNKNOWN);
        CHECK.due("new: no hour 0", x.pressure(0, 0), -10101);
        CHECK.due("new: nothing goes by", x.pass(1), WetWalls.STATE);
        CHECK.due("new: no layers to clear", x.clear(), 0);
        CHECK.due("new: no hours to end", x.fair(), 0);
        CHECK.due("new: no readings to forget", x.forget(), 0);
    }

    // Promise 1: a new object, whatever others have gone through.
    private static void newObjectsShareNothing() {
        WetWalls used = Check.full();
        Check.flatten(used, 0, 700);
        used.share(2);
        used.pass(5);
        used.fits();
        WetWalls x = new WetWalls();
        CHECK.dueCounts("new beside another", x, 0, 0, 0, 10, 0, 0, 0);
        for (int k = 0; k < 5; k++) {
            CHECK.due("new beside another: corner " + k, x.corner(0, k, 250 * k), 250 * k);
        }
        CHECK.due("new beside another: digest", x.digest(), new WetWalls().digest());
    }

    // "LAYERS 0 to n less 1 (n 1 to 6)"; promise 2: "how many"; "FULL".
    private static void sixLayers() {
        WetWalls x = new WetWalls();
        for (int n = 1; n <= 6; n++) {
            CHECK.due("layer " + n, x.layer(10 * n, n, n, n % 3), n);
            CHECK.due("the last layer is n less 1", x.about(n - 1, 0), 10 * n);
            CHECK.due("there is no layer n", x.about(n, 0), UNKNOWN);
        }
        CHECK.due("a seventh layer", x.layer(1, 1, 1, 0), FULL);
        CHECK.due("six layers stay", x.count(0), 6);
        CHECK.same("a seventh layer", () -> Check.layers(6), y -> y.layer(1, 1, 1, 0), FULL);
        CHECK.same("a seventh layer of a full wall", Check::full, y -> y.layer(1000, 50, 50, 2), FULL);
        CHECK.same("a seventh layer in use", () -> Check.inUse(6), y -> y.layer(77, 3, 4, 1), FULL);
    }

    // "LAYER 0 outermost"; promise 2: "behind (to the inside of) the others".
    private static void layerZeroIsOutermost() {
        WetWalls x = new WetWalls();
        x.layer(100, 1, 1, 0);
        x.layer(100, 1, 1, 0);
        Check.flatten(x, 0, 0);
        x.hour(0, 0, 9, 20, 0);
        x.pass(1);
        CHECK.due("rain comes to layer 0", x.about(0, 4), 9);
        CHECK.due("inside gives to the last layer", x.about(1, 4), 10);
    }

    private static long layerWith(WetWalls x, int place, int v) {
        int[] numbers = {10, 2, 3, 1};
        numbers[place] = v;
        return x.layer(numbers[0], numbers[1], numbers[2], numbers[3]);
    }

    // "ROOM for water (1 to 1000), STEAM RESIST (1 to 50), HEAT RESIST (1 to 50), a CURVE 0 to 2".
    private static void layerNumberBounds(int place, int most) {
        int least = place == 3 ? 0 : 1;
        for (int v : Check.ends(least, most)) {
            WetWalls x = Check.layers(2);
            CHECK.due("layer with number " + place + " of " + v, layerWith(x, place, v), 3);
            CHECK.due("layer with number " + place + " of " + v + " has it", x.about(2, place), v);
            CHECK.due("layer with number " + place + " of " + v + " is there", x.count(0), 3);
        }
        for (int v : Check.beyond(least, most)) {
            String what = "layer with number " + place + " of " + v;
            CHECK.same(what, WetWalls::new, x -> layerWith(x, place, v), OUTSIDE);
            CHECK.same(what, () -> Check.inUse(3), x -> layerWith(x, place, v), OUTSIDE);
        }
    }

    // Promise 2: "OUTSIDE: room, steam, heat, curve; FULL" - in this order.
    private static void layerOutsideAheadOfFull() {
        for (int place = 0; place < 4; place++) {
            int which = place;
            CHECK.same("layer outside ahead of full", Check::full, x -> layerWith(x, which, -1), OUTSIDE);
        }
    }

    // "WATER, 0 to ROOM (0 at first)"
    private static void layerBeginsDry() {
        WetWalls x = Check.inUse(2);
        x.layer(1000, 50, 49, 2);
        CHECK.dueAbout("a layer at first", x, 2, 1000, 50, 49, 2, 0, 0, 0, 0, 0);
        CHECK.due("a layer at first brings no water", x.sum(4), 11);
    }

    // Promise 3: "how many LAYERS there were" - none.
    private static void clearOfNothing() {
        CHECK.same("clear of nothing", WetWalls::new, WetWalls::clear, 0);
        CHECK.same("clear without layers", () -> {
            WetWalls x = new WetWalls();
            x.hour(1, 2, 3, 4, 5);
            x.share(4);
            return x;
        }, WetWalls::clear, 0);
    }

    // Promise 3: "No LAYERS, READINGS; all sums of water are 0: how many LAYERS there were."
    private static void clearOfFullWall() {
        WetWalls x = Check.full();
        x.water(1, 20);
        x.pass(30);
        CHECK.due("clear of six", x.clear(), 6);
        CHECK.dueCounts("clear of six", x, 0, 24, 6, 10, 0, 0, 0);
        CHECK.dueSums("clear of six", x, 0, 0, 0, 0, 0);
        CHECK.due("clear: no layer 0", x.water(0, 0), UNKNOWN);
        for (int i = 1; i <= 6; i++) {
            CHECK.due("clear: six layers have place again", x.layer(5, 5, 5, 0), i);
        }
        CHECK.due("clear: but no more", x.layer(5, 5, 5, 0), FULL);
        for (int i = 1; i <= 12; i++) {
            CHECK.due("clear: twelve readings have place again", x.read(0, 1, 0, 0), i);
        }
        CHECK.due("clear: but no more", x.read(0, 1, 0, 0), FULL);
    }

    // Promise 3 names LAYERS, READINGS and sums alone: all else stays.
    private static void clearLeavesTheRest() {
        WetWalls x = Check.inUse(2);
        x.corner(2, 1, 300);
        x.fits();
        x.clear();
        CHECK.dueCounts("clear leaves the rest", x, 0, 3, 1, 7, 0, 0, 1);
        CHECK.due("clear leaves curves", x.corner(2, 1, 250), 300);
        x.layer(10, 1, 1, 0);
        CHECK.due("clear leaves the next hour", x.pass(1), 2);
    }

    // "WATER (0 at first)", "since the WALL was empty of LAYERS": nothing of former layers shows.
    private static void layersBehindClearBeginAnew() {
        WetWalls x = Check.flatLayer(10, 800);
        x.layer(10, 1, 1, 0);
        x.water(0, 10);
        x.water(1, 9);
        x.hour(800, 50, 0, 800, -30);
        x.pass(2);
        CHECK.due("there was mould", x.about(0, 7), 2);
        x.fair();
        x.hour(800, -30, 0, 800, -30);
        x.pass(1);
        CHECK.due("there was frost", x.about(0, 6), 1);
        x.clear();
        x.layer(10, 1, 1, 0);
        x.layer(10, 1, 1, 0);
        CHECK.dueAbout("anew", x, 0, 10, 1, 1, 0, 0, 800, 0, 0, 0);
        CHECK.dueAbout("anew", x, 1, 10, 1, 1, 0, 0, 800, 0, 0, 0);
    }

    // "five CORNERS 0 to 4 (.. 0, 250, 500, 750, 1000 at first)"
    private static void cornersAtFirst() {
        WetWalls x = new WetWalls();
        for (int curve = 0; curve < 3; curve++) {
            for (int k = 0; k < 5; k++) {
                CHECK.due("corner at first " + curve + " " + k, x.corner(curve, k, 250 * k), 250 * k);
            }
        }
    }

    // Promise 4: "UNKNOWN: curve, corner".
    private static void cornerUnknown() {
        for (int curve : Check.beyond(0, 2)) {
            CHECK.same("corner of curve " + curve, () -> Check.inUse(3), x -> x.corner(curve, 0, 0), UNKNOWN);
        }
        for (int k : Check.beyond(0, 4)) {
            CHECK.same("corner " + k, () -> Check.inUse(3), x -> x.corner(2, k, 1000), UNKNOWN);
            CHECK.same("corner " + k, () -> Check.inUse(3), x -> x.corner(0, k, 0), UNKNOWN);
        }
    }

    // "CORNERS 0 to 4 (0 to 1000 ..)"; promise 4: "OUTSIDE: v".
    private static void cornerFromZeroToThousand() {
        for (int curve = 0; curve < 3; curve++) {
            int which = curve;
            WetWalls x = new WetWalls();
            Check.flatten(x, curve, 1000);
            CHECK.due("all corners 1000", x.corner(curve, 0, 0), 1000);
            CHECK.due("corner 0 was 0", x.corner(curve, 0, 1000), 0);
            for (int v : Check.beyond(0, 1000)) {
                CHECK.same("corner 0 of " + v, WetWalls::new, y -> y.corner(which, 0, v), OUTSIDE);
                CHECK.same("corner 2 of " + v, WetWalls::new, y -> y.corner(which, 2, v), OUTSIDE);
                CHECK.same("corner 4 of " + v, () -> Check.inUse(3), y -> y.corner(which, 4, v), OUTSIDE);
            }
        }
    }

    // Promise 4: "or it would be below the one ahead" - as high as it is not below.
    private static void cornerNotBelowTheOneAhead() {
        for (int k = 1; k < 5; k++) {
            int which = k;
            int ahead = 250 * (k - 1);
            CHECK.same("corner " + k + " below the one ahead", () -> Check.inUse(2), x -> x.corner(1, which, ahead - 1), OUTSIDE);
            WetWalls x = new WetWalls();
            CHECK.due("corner " + k + " as the one ahead", x.corner(1, k, ahead), 250 * k);
            CHECK.due("corner " + k + " became so", x.corner(1, k, 250 * k), ahead);
        }
    }

    // Promise 4: "or above the one behind" - as low as it is not above.
    private static void cornerNotAboveTheOneBehind() {
        for (int k = 0; k < 4; k++) {
            int which = k;
            int behind = 250 * (k + 1);
            CHECK.same("corner " + k + " above the one behind", () -> Check.inUse(2), x -> x.corner(1, which, behind + 1), OUTSIDE);
            WetWalls x = new WetWalls();
            CHECK.due("corner " + k + " as the one behind", x.corner(1, k, behind), 250 * k);
            CHECK.due("corner " + k + " became so", x.corner(1, k, 250 * k), behind);
        }
    }

    // Promise 4: "A CORNER of a CURVE becomes v": no other one.
    private static void cornerOfItsCurveAlone() {
        WetWalls x = new WetWalls();
        x.corner(1, 2, 444);
        for (int curve = 0; curve < 3; curve++) {
            for (int k = 0; k < 5; k++) {
                int want = curve == 1 && k == 2 ? 444 : 250 * k;
                CHECK.due("corner " + curve + " " + k + " beside another", x.corner(curve, k, want), want);
            }
        }
    }

    // Promise 4: UNKNOWN is told ahead of OUTSIDE.
    private static void cornerUnknownAheadOfOutside() {
        CHECK.same("no curve, no such v", () -> Check.inUse(2), x -> x.corner(3, 0, -1), UNKNOWN);
        CHECK.same("no corner, no such v", () -> Check.inUse(2), x -> x.corner(0, 5, 1001), UNKNOWN);
        CHECK.same("no corner, no such v", () -> Check.inUse(2), x -> x.corner(0, -1, -1), UNKNOWN);
    }

    // "WATER, 0 to ROOM"; promise 5: "what it was"; "OUTSIDE".
    private static void waterFromZeroToRoom() {
        for (int room : new int[] {1, 40, 1000}) {
            WetWalls x = new WetWalls();
            x.layer(3, 1, 1, 0);
            x.layer(room, 1, 1, 0);
            CHECK.due("water as much as there is room", x.water(1, room), 0);
            CHECK.due("water as much as there was", x.water(1, room), room);
            CHECK.due("water all out", x.water(1, 0), room);
            CHECK.due("water none out of none", x.water(1, 0), 0);
            for (int v : Check.beyond(0, room)) {
                CHECK.same("water " + v + " in room " + room, () -> {
                    WetWalls y = new WetWalls();
                    y.layer(3, 1, 1, 0);
                    y.layer(room, 1, 1, 0);
                    y.water(1, room / 2);
                    return y;
                }, y -> y.water(1, v), OUTSIDE);
            }
        }
    }

    // Promise 5: "UNKNOWN".
    private static void waterUnknown() {
        CHECK.same("water without layers", WetWalls::new, x -> x.water(0, 0), UNKNOWN);
        for (int n : new int[] {1, 6}) {
            for (int i : Check.beyond(0, n - 1)) {
                CHECK.same("water of layer " + i + " of " + n, () -> Check.inUse(n), x -> x.water(i, 1), UNKNOWN);
            }
            CHECK.due("water of the last layer", Check.inUse(n).water(n - 1, 1) >= 0 ? 1 : 0, 1);
        }
    }

    // Promise 5: "UNKNOWN; OUTSIDE" - in this order.
    private static void waterUnknownAheadOfOutside() {
        CHECK.same("no layer, too much water", () -> Check.inUse(2), x -> x.water(2, 1001), UNKNOWN);
        CHECK.same("no layer, water below 0", () -> Check.inUse(2), x -> x.water(-1, -1), UNKNOWN);
    }

    // Promise 5: "what is more is put in by hand, what is less taken out".
    private static void waterByHand() {
        WetWalls x = Check.flatLayer(40, 0);
        x.water(0, 40);
        CHECK.due("by hand: put in", x.sum(4), 40);
        x.water(0, 40);
        CHECK.due("by hand: neither", x.sum(4), 40);
        x.water(0, 39);
        CHECK.due("by hand: taken out", x.sum(4), 39);
        x.water(0, 0);
        CHECK.due("by hand: all taken out", x.sum(4), 0);
        x.hour(0, 0, 40, 0, 0);
        x.pass(1);
        x.water(0, 0);
        CHECK.due("by hand: rain taken out", x.sum(4), -40);
        CHECK.due("by hand: rain stays in its own sum", x.sum(0), 40);
    }

    private static WetWalls bentLayer(int room) {
        WetWalls x = new WetWalls();
        x.layer(room, 1, 1, 1);
        int[] corners = {10, 20, 500, 501, 999};
        for (int k = 0; k < 5; k++) {
            x.corner(1, k, corners[k]);
        }
        return x;
    }

    private static void dueDamp(int room, int water, int want) {
        WetWalls x = bentLayer(room);
        x.water(0, water);
        CHECK.due("damp of " + water + " in room " + room, x.about(0, 5), want);
    }

    // "with q four times WATER by ROOM, rounded down: CORNER q": at a corner, and next to it.
    private static void dampAtTheCorners() {
        int[] corners = {10, 20, 500, 501, 999};
        for (int q = 0; q < 5; q++) {
            dueDamp(4, q, corners[q]);
            dueDamp(1000, 250 * q, corners[q]);
        }
        dueDamp(1000, 249, 19);
        dueDamp(1000, 251, 21);
        dueDamp(1000, 499, 498);
        dueDamp(1000, 749, 500);
        dueDamp(1000, 999, 997);
    }

    // "what CORNER q and 1 is more, times (four times WATER less q ROOM) by ROOM, rounded down".
    private static void dampIsRoundedDown() {
        int[] inThree = {10, 180, 500, 999};
        for (int w = 0; w < 4; w++) {
            dueDamp(3, w, inThree[w]);
        }
        int[] inSeven = {10, 15, 88, 362, 500, 500, 714, 999};
        for (int w = 0; w < 8; w++) {
            dueDamp(7, w, inSeven[w]);
        }
    }

    // "and, q being below 4": a full layer has CORNER 4, a dry one CORNER 0, in the least room too.
    private static void dampOfFullAndDry() {
        for (int room : new int[] {1, 2, 3, 999, 1000}) {
            dueDamp(room, 0, 10);
            dueDamp(room, room, 999);
        }
        dueDamp(2, 1, 500);
        WetWalls flat = Check.flatLayer(7, 1000);
        CHECK.due("damp of corners that are all 1000", flat.about(0, 5), 1000);
        flat.water(0, 7);
        CHECK.due("damp of corners that are all 1000", flat.about(0, 5), 1000);
        Check.flatten(flat, 0, 0);
        CHECK.due("damp of corners that are all 0", flat.about(0, 5), 0);
    }

    // Promise 6: "UNKNOWN".
    private static void aboutUnknown() {
        CHECK.same("about without layers", WetWalls::new, x -> x.about(0, 0), UNKNOWN);
        for (int n : new int[] {1, 6}) {
            for (int i : Check.beyond(0, n - 1)) {
                CHECK.same("about layer " + i + " of " + n, () -> Check.inUse(n), x -> x.about(i, 0), UNKNOWN);
            }
            CHECK.due("about the last layer", Check.inUse(n).about(n - 1, 0), 13 + 7 * n);
        }
    }

    // Promise 6: "what = 0 ROOM .. 8 WARMTH"; "OUTSIDE".
    private static void aboutOutside() {
        WetWalls x = new WetWalls();
        x.layer(40, 30, 20, 2);
        x.hour(0, 7, 0, 0, 7);
        x.pass(1);
        x.water(0, 10);
        CHECK.dueAbout("about", x, 0, 40, 30, 20, 2, 10, 250, 0, 0, 7);
        for (int what : Check.beyond(0, 8)) {
            CHECK.same("about, what = " + what, () -> Check.inUse(2), y -> y.about(1, what), OUTSIDE);
        }
    }

    // Promise 6: "UNKNOWN; OUTSIDE" - in this order.
    private static void aboutUnknownAheadOfOutside() {
        CHECK.same("about no layer, nothing", () -> Check.inUse(2), x -> x.about(2, 9), UNKNOWN);
        CHECK.same("about no layer, nothing", () -> Check.inUse(2), x -> x.about(-1, -1), UNKNOWN);
    }

    // Promise 6: "8 WARMTH in the latest HOUR (0 ahead of any)".
    private static void aboutWarmthAheadOfAnyHour() {
        WetWalls x = Check.layers(1);
        x.hour(0, 30, 0, 0, 30);
        CHECK.due("warmth ahead of any hour", x.about(0, 8), 0);
        x.fits();
        x.best(0);
        CHECK.due("warmth ahead of any hour that went by", x.about(0, 8), 0);
        x.pass(1);
        CHECK.due("warmth in the latest hour", x.about(0, 8), 30);
        x.fair();
        x.hour(0, -8, 0, 0, -8);
        CHECK.due("warmth in the latest hour, which has ended", x.about(0, 8), 30);
        x.steady(1);
        CHECK.due("warmth in the latest hour of a round", x.about(0, 8), -8);
    }

    private static void aboutChangesNothing() {
        int[] want = {27, 2, 3, 1};
        for (int what = 0; what < 4; what++) {
            int which = what;
            CHECK.same("about(1, " + what + ")", () -> Check.inUse(2), x -> x.about(1, which), want[what]);
        }
    }
}
