/** The boundaries within an hour that goes by: rain, borders, warmth, frost, mould, as the terms tell them. */
public final class BoundaryHourTest {
    private static final Check CHECK = new Check();

    public static void main(String[] args) {
        rainTimesShareIsRoundedDown();
        rainAsFarAsThereIsRoom();
        rainComesToLayerZeroAlone();
        rainComesAheadOfTheBorders();
        bordersOneBehindTheOther();
        dampAsItIsThen();
        flowIsCutTowardZeroAtOutside();
        flowIsCutTowardZeroAtInside();
        flowIsCutTowardZeroWithin();
        steamResistsTogether();
        giverGivesNoMoreThanItHas();
        giverWithinGivesNoMoreThanItHas();
        takerTakesNoMoreThanItHasRoomFor();
        takerWithinTakesNoMoreThanItHasRoomFor();
        dryGivesAndFullTakesNothing();
        outsideAndInsideGiveAndTakeAll();
        warmthIsRoundedDown();
        warmthOfTheFarthestNumbers();
        frostBelowZero();
        frostAboveNineTenths();
        frostIsOnlyMore();
        mouldFromDamp800();
        mouldFromWarmth5();
        mouldAtMost1000();
        mouldAtLeast0();
        frostAndMouldBehindTheBorders();
        CHECK.end("an hour's boundaries");
    }

    private static WetWalls afterRain(int room, int held, int rain, int share) {
        WetWalls x = Check.flatLayer(room, 0);
        x.water(0, held);
        x.hour(0, 0, rain, 0, 0);
        x.share(share);
        x.pass(1);
        return x;
    }

    // "RAIN times SHARE by 10, rounded down".
    private static void rainTimesShareIsRoundedDown() {
        for (int share = 0; share <= 10; share++) {
            int whole = 0;
            int tenths = 0;
            for (int rain = 0; rain <= 100; rain++) {
                CHECK.due("rain " + rain + ", share " + share, afterRain(1000, 0, rain, share).sum(0), whole);
                tenths += share;
                whole += tenths >= 10 ? 1 : 0;
                tenths -= tenths >= 10 ? 10 : 0;
            }
        }
    }

    private static void dueRain(int room, int held, int rain, int in, int off) {
        String what = "rain " + rain + " on " + held + " in room " + room;
        WetWalls x = afterRain(room, held, rain, 10);
        CHECK.dueSums(what, x, in, off, 0, 0, held);
        CHECK.due(what + ", water", x.about(0, 4), held + in);
    }

    // "comes to LAYER 0 as far as it has room; the rest RUNS OFF".
    private static void rainAsFarAsThereIsRoom() {
        dueRain(100, 0, 100, 100, 0);
        dueRain(99, 0, 100, 99, 1);
        dueRain(101, 0, 100, 100, 0);
        dueRain(1000, 999, 1, 1, 0);
        dueRain(1000, 999, 2, 1, 1);
        dueRain(1000, 1000, 1, 0, 1);
        dueRain(1, 0, 1, 1, 0);
        dueRain(1, 0, 2, 1, 1);
        dueRain(1, 1, 100, 0, 100);
        dueRain(5, 5, 0, 0, 0);
        WetWalls x = afterRain(10, 8, 39, 1);
        CHECK.dueSums("what the share leaves out does not run off", x, 2, 1, 0, 0, 8);
    }

    // "comes to LAYER 0": the rest runs off, however much room the next one has.
    private static void rainComesToLayerZeroAlone() {
        WetWalls x = Check.flatLayer(3, 0);
        x.layer(1000, 1, 1, 0);
        x.hour(0, 0, 50, 0, 0);
        x.pass(1);
        CHECK.due("rain in layer 0", x.about(0, 4), 3);
        CHECK.due("no rain in layer 1", x.about(1, 4), 0);
        CHECK.due("rain that ran off", x.sum(1), 47);
    }

    // "Then at each BORDER": rain has taken the room that outside's damp would have.
    private static void rainComesAheadOfTheBorders() {
        WetWalls x = Check.flatLayer(100, 0);
        x.hour(1000, 0, 100, 0, 0);
        x.pass(1);
        CHECK.dueSums("rain ahead of damp", x, 100, 0, 0, 0, 0);
        WetWalls y = Check.flatLayer(10, 1000);
        y.water(0, 10);
        y.hour(0, 0, 7, 1000, 0);
        y.pass(1);
        CHECK.dueSums("no room is made ahead of rain", y, 0, 7, -10, 0, 10);
    }

    // "at each BORDER 0 to n, one behind the other".
    private static void bordersOneBehindTheOther() {
        WetWalls x = new WetWalls();
        for (int i = 0; i < 6; i++) {
            x.layer(1000, 1, 1, 0);
        }
        x.hour(1000, 0, 0, 0, 0);
        x.pass(1);
        // 500, 250, 125, 62, 31, 15 and 7 go over borders 0 to 6, each half of what has come ahead.
        int[] want = {250, 125, 63, 31, 16, 8};
        for (int i = 0; i < 6; i++) {
            CHECK.due("water of layer " + i, x.about(i, 4), want[i]);
        }
        CHECK.dueSums("six layers", x, 0, 0, 500, -7, 0);
        WetWalls y = new WetWalls();
        for (int i = 0; i < 6; i++) {
            y.layer(1000, 1, 1, 0);
        }
        y.hour(0, 0, 0, 1000, 0);
        y.pass(1);
        // Over the last border alone water comes, for those ahead were done.
        CHECK.due("water of layer 5", y.about(5, 4), 500);
        CHECK.due("water of all", y.count(5), 500);
    }

    // "DAMP ahead less DAMP behind, as they are then".
    private static void dampAsItIsThen() {
        WetWalls x = new WetWalls();
        x.layer(1000, 1, 1, 0);
        x.hour(400, 0, 100, 300, 0);
        x.pass(1);
        // Rain makes it 100, 300 by 2 come from outside, 250 is less than inside's 300, so 25 come back.
        CHECK.dueSums("damp as it is then", x, 100, 0, 150, 25, 0);
    }

    /** Layer 0 and 1 of curve 0, damp being water; nothing goes but over the one border that is looked at. */
    private static int overOutside(int steam, int water, int damp) {
        WetWalls x = new WetWalls();
        x.layer(1000, steam, 1, 0);
        x.layer(1000, 50, 1, 0);
        x.water(0, water);
        x.water(1, water);
        x.hour(damp, 0, 0, water, 0);
        x.pass(1);
        CHECK.due("what outside gave came", x.count(5), 2 * water + x.sum(2));
        return x.sum(2);
    }

    private static int overInside(int steam, int water, int damp) {
        WetWalls x = new WetWalls();
        x.layer(1000, steam, 1, 0);
        x.water(0, water);
        x.hour(water, 0, 0, damp, 0);
        x.pass(1);
        CHECK.due("nothing from outside", x.sum(2), 0);
        CHECK.due("what inside gave came", x.about(0, 4), water + x.sum(3));
        return -x.sum(3);
    }

    private static int overTheMiddle(int steam, int other, int water, int otherWater) {
        WetWalls x = new WetWalls();
        x.layer(1000, steam, 1, 0);
        x.layer(1000, other, 1, 0);
        x.water(0, water);
        x.water(1, otherWater);
        x.hour(water, 0, 0, otherWater, 0);
        x.pass(1);
        int went = water - x.about(0, 4);
        CHECK.due("nothing from outside", x.sum(2), 0);
        CHECK.due("what went came", x.about(1, 4) - x.sum(3), otherWater + went);
        return went;
    }

    private static final int[] DIFFERENCES = {0, 1, 2, 3, 4, 5, 6, -1, -2, -3, -4, -5, -6, 299, 300, -299, -300};
    private static final int[] BY_THREE = {0, 0, 0, 1, 1, 1, 2, 0, 0, -1, -1, -1, -2, 99, 100, -99, -100};

    // "by both STEAM RESISTS together (1 of outside, inside), cut toward 0; so much WATER goes on, or back".
    private static void flowIsCutTowardZeroAtOutside() {
        for (int k = 0; k < DIFFERENCES.length; k++) {
            CHECK.due("over border 0 by " + DIFFERENCES[k], overOutside(2, 500, 500 + DIFFERENCES[k]), BY_THREE[k]);
        }
    }

    private static void flowIsCutTowardZeroAtInside() {
        for (int k = 0; k < DIFFERENCES.length; k++) {
            CHECK.due("over border n by " + DIFFERENCES[k], overInside(2, 500, 500 - DIFFERENCES[k]), BY_THREE[k]);
        }
    }

    private static void flowIsCutTowardZeroWithin() {
        for (int k = 0; k < DIFFERENCES.length; k++) {
            int other = 500 - DIFFERENCES[k];
            CHECK.due("over border 1 by " + DIFFERENCES[k], overTheMiddle(1, 2, 500, other), BY_THREE[k]);
            CHECK.due("over border 1 by " + DIFFERENCES[k], overTheMiddle(2, 1, 500, other), BY_THREE[k]);
        }
    }

    // "STEAM RESIST (1 to 50)": the least and the most of both together.
    private static void steamResistsTogether() {
        CHECK.due("100 by 50 and 50", overTheMiddle(50, 50, 500, 400), 1);
        CHECK.due("99 by 50 and 50", overTheMiddle(50, 50, 500, 401), 0);
        CHECK.due("-100 by 50 and 50", overTheMiddle(50, 50, 400, 500), -1);
        CHECK.due("-99 by 50 and 50", overTheMiddle(50, 50, 401, 500), 0);
        CHECK.due("2 by 1 and 1", overTheMiddle(1, 1, 500, 498), 1);
        CHECK.due("1 by 1 and 1", overTheMiddle(1, 1, 500, 499), 0);
        CHECK.due("51 by 1 and 50", overOutside(50, 500, 551), 1);
        CHECK.due("50 by 1 and 50", overOutside(50, 500, 550), 0);
        CHECK.due("51 by 50 and 1", overInside(50, 500, 449), 1);
        CHECK.due("50 by 50 and 1", overInside(50, 500, 450), 0);
    }

    /** A layer that 125 drops would leave, or come to, over each border where the damp is another. */
    private static WetWalls afterHour(int room, int held, int damp, int outside, int inside) {
        WetWalls x = Check.flatLayer(room, damp);
        x.water(0, held);
        x.hour(outside, 0, 0, inside, 0);
        x.pass(1);
        return x;
    }

    // "but at most as much as the one that gives it has".
    private static void giverGivesNoMoreThanItHas() {
        for (int held : new int[] {0, 1, 124, 125, 126}) {
            int gone = Math.min(held, 125);
            WetWalls out = afterHour(1000, held, 250, 0, 250);
            CHECK.dueSums(held + " to outside", out, 0, 0, -gone, 0, held);
            CHECK.due(held + " to outside, the rest", out.about(0, 4), held - gone);
            WetWalls in = afterHour(1000, held, 250, 250, 0);
            CHECK.dueSums(held + " to inside", in, 0, 0, 0, -gone, held);
            CHECK.due(held + " to inside, the rest", in.about(0, 4), held - gone);
            WetWalls both = afterHour(1000, held, 250, 0, 0);
            CHECK.dueSums(held + " to both", both, 0, 0, -gone, gone - held, held);
            CHECK.due(held + " to both, the rest", both.about(0, 4), 0);
        }
    }

    /** Layer 0 of curve 0, layer 1 of curve 1, whose damps are always the same; outside and inside are as they. */
    private static WetWalls twoLayers(int[] rooms, int[] held, int[] damps) {
        WetWalls x = new WetWalls();
        for (int i = 0; i < 2; i++) {
            x.layer(rooms[i], 1, 1, i);
            Check.flatten(x, i, damps[i]);
            x.water(i, held[i]);
        }
        x.hour(damps[0], 0, 0, damps[1], 0);
        x.pass(1);
        return x;
    }

    // The same between LAYERS, on and back.
    private static void giverWithinGivesNoMoreThanItHas() {
        int[] rooms = {1000, 1000};
        for (int held : new int[] {0, 1, 124, 125, 126}) {
            int gone = Math.min(held, 125);
            WetWalls on = twoLayers(rooms, new int[] {held, 7}, new int[] {250, 0});
            CHECK.due(held + " on", on.about(0, 4), held - gone);
            CHECK.due(held + " on, come", on.about(1, 4), 7 + gone);
            WetWalls back = twoLayers(rooms, new int[] {7, held}, new int[] {0, 250});
            CHECK.due(held + " back", back.about(1, 4), held - gone);
            CHECK.due(held + " back, come", back.about(0, 4), 7 + gone);
            CHECK.dueSums(held + " on stays in the wall", on, 0, 0, 0, 0, held + 7);
            CHECK.dueSums(held + " back stays in the wall", back, 0, 0, 0, 0, held + 7);
        }
    }

    // "and as the one that takes it has room for".
    private static void takerTakesNoMoreThanItHasRoomFor() {
        for (int free : new int[] {0, 1, 124, 125, 126}) {
            int come = Math.min(free, 125);
            WetWalls out = afterHour(200, 200 - free, 0, 250, 0);
            CHECK.dueSums("from outside to room " + free, out, 0, 0, come, 0, 200 - free);
            CHECK.due("from outside to room " + free + ", water", out.about(0, 4), 200 - free + come);
            WetWalls in = afterHour(200, 200 - free, 0, 0, 250);
            CHECK.dueSums("from inside to room " + free, in, 0, 0, 0, come, 200 - free);
            CHECK.due("from inside to room " + free + ", water", in.about(0, 4), 200 - free + come);
            WetWalls both = afterHour(200, 200 - free, 0, 250, 250);
            CHECK.dueSums("from both to room " + free, both, 0, 0, come, free - come, 200 - free);
        }
    }

    // The same between LAYERS, on and back.
    private static void takerWithinTakesNoMoreThanItHasRoomFor() {
        for (int free : new int[] {0, 1, 124, 125, 126}) {
            int come = Math.min(free, 125);
            WetWalls on = twoLayers(new int[] {1000, 200}, new int[] {900, 200 - free}, new int[] {250, 0});
            CHECK.due("on to room " + free, on.about(1, 4), 200 - free + come);
            CHECK.due("on to room " + free + ", given", on.about(0, 4), 900 - come);
            WetWalls back = twoLayers(new int[] {200, 1000}, new int[] {200 - free, 900}, new int[] {0, 250});
            CHECK.due("back to room " + free, back.about(0, 4), 200 - free + come);
            CHECK.due("back to room " + free + ", given", back.about(1, 4), 900 - come);
        }
    }

    // Both bounds at once: the lesser one counts.
    private static void dryGivesAndFullTakesNothing() {
        WetWalls x = twoLayers(new int[] {50, 50}, new int[] {0, 50}, new int[] {1000, 0});
        CHECK.due("dry stays dry", x.about(0, 4), 0);
        CHECK.due("full stays full", x.about(1, 4), 50);
        WetWalls y = twoLayers(new int[] {50, 50}, new int[] {5, 46}, new int[] {1000, 0});
        CHECK.due("5 there, room for 4: given", y.about(0, 4), 1);
        CHECK.due("5 there, room for 4: taken", y.about(1, 4), 50);
        WetWalls z = twoLayers(new int[] {50, 50}, new int[] {4, 45}, new int[] {1000, 0});
        CHECK.due("4 there, room for 5: given", z.about(0, 4), 0);
        CHECK.due("4 there, room for 5: taken", z.about(1, 4), 49);
    }

    // "(outside and inside give and take all)"
    private static void outsideAndInsideGiveAndTakeAll() {
        CHECK.dueSums("all from outside", afterHour(1000, 0, 0, 1000, 0), 0, 0, 500, 0, 0);
        CHECK.dueSums("all from inside", afterHour(1000, 0, 0, 0, 1000), 0, 0, 0, 500, 0);
        CHECK.dueSums("all from both", afterHour(1000, 0, 0, 1000, 1000), 0, 0, 500, 500, 0);
        CHECK.dueSums("all to outside", afterHour(1000, 1000, 1000, 0, 1000), 0, 0, -500, 0, 1000);
        CHECK.dueSums("all to inside", afterHour(1000, 1000, 1000, 1000, 0), 0, 0, 0, -500, 1000);
        CHECK.dueSums("all to both", afterHour(1000, 1000, 1000, 0, 0), 0, 0, -500, -500, 1000);
    }

    private static void dueWarmth(int layers, int heat, int outside, int inside, int first, int last) {
        WetWalls x = new WetWalls();
        for (int i = 0; i < layers; i++) {
            x.layer(10, 1, heat, 0);
        }
        x.hour(0, outside, 0, 0, inside);
        x.pass(1);
        String what = "warmth from " + outside + " to " + inside + " through " + layers + " of " + heat;
        CHECK.due(what + ", first", x.about(0, 8), first);
        CHECK.due(what + ", last", x.about(layers - 1, 8), last);
    }

    // "WARMTH there is that outside and, rounded down, (inside less outside) times ..".
    private static void warmthIsRoundedDown() {
        dueWarmth(1, 1, 0, 1, 0, 0);
        dueWarmth(1, 1, 0, -1, -1, -1);
        dueWarmth(1, 1, -1, 0, -1, -1);
        dueWarmth(1, 1, 1, 0, 0, 0);
        dueWarmth(1, 1, 0, 2, 1, 1);
        dueWarmth(1, 1, 0, -2, -1, -1);
        dueWarmth(1, 1, 7, 7, 7, 7);
        dueWarmth(1, 50, 0, 1, 0, 0);
        dueWarmth(1, 50, 0, -1, -1, -1);
        // The whole way of two layers of 1 is 8; to their middles it is 3 and 5.
        dueWarmth(2, 1, 0, 8, 3, 5);
        dueWarmth(2, 1, 0, 7, 2, 4);
        dueWarmth(2, 1, 0, -8, -3, -5);
        dueWarmth(2, 1, 0, -7, -3, -5);
        dueWarmth(2, 1, 0, -9, -4, -6);
    }

    // "WARMTH (-30 to 50)", "HEAT RESIST (1 to 50)", six LAYERS: 80 times 52, and 552, by 604.
    private static void warmthOfTheFarthestNumbers() {
        dueWarmth(1, 1, -30, 50, 10, 10);
        dueWarmth(1, 1, 50, -30, 10, 10);
        dueWarmth(6, 50, -30, 50, -24, 43);
        dueWarmth(6, 50, 50, -30, 43, -24);
        dueWarmth(6, 50, -30, -30, -30, -30);
        dueWarmth(6, 50, 50, 50, 50, 50);
        // 80 times 3, and 13, by 16.
        dueWarmth(6, 1, -30, 50, -15, 35);
    }

    private static int frostOf(int room, int water, int outside, int inside) {
        WetWalls x = Check.flatLayer(room, 0);
        x.water(0, water);
        x.hour(0, outside, 0, 0, inside);
        x.pass(1);
        return x.about(0, 6);
    }

    // "FROST is one more, if WARMTH is below 0".
    private static void frostBelowZero() {
        CHECK.due("frost at -1", frostOf(10, 10, -1, -1), 1);
        CHECK.due("frost at 0", frostOf(10, 10, 0, 0), 0);
        CHECK.due("frost at 1", frostOf(10, 10, 1, 1), 0);
        CHECK.due("frost at -30", frostOf(10, 10, -30, -30), 1);
        CHECK.due("frost where warmth is rounded down to -1", frostOf(10, 10, 0, -1), 1);
        CHECK.due("frost where warmth is rounded down to 0", frostOf(10, 10, 1, 0), 0);
    }

    // "and ten times WATER above nine times ROOM".
    private static void frostAboveNineTenths() {
        int[][] roomAndLeast = {{10, 10}, {1000, 901}, {1, 1}, {9, 9}, {11, 10}, {19, 18}, {20, 19}};
        for (int[] v : roomAndLeast) {
            CHECK.due("frost with " + v[1] + " in room " + v[0], frostOf(v[0], v[1], -1, -1), 1);
            CHECK.due("frost with one less in room " + v[0], frostOf(v[0], v[1] - 1, -1, -1), 0);
            CHECK.due("frost in full room " + v[0], frostOf(v[0], v[0], -1, -1), 1);
        }
        CHECK.due("frost in a dry layer", frostOf(1, 0, -30, -30), 0);
    }

    // FROST is "one more" without a bound, and never less.
    private static void frostIsOnlyMore() {
        WetWalls x = Check.flatLayer(10, 0);
        x.water(0, 10);
        x.hour(0, -1, 0, 0, -1);
        for (int i = 0; i < 5; i++) {
            x.pass(240);
        }
        CHECK.due("frost of 1200 hours", x.about(0, 6), 1200);
        x.fair();
        x.hour(0, 20, 0, 0, 20);
        x.pass(3);
        CHECK.due("frost behind warm hours", x.about(0, 6), 1200);
        x.fair();
        x.hour(0, -1, 0, 0, -1);
        x.water(0, 9);
        x.pass(3);
        CHECK.due("frost behind dry hours", x.about(0, 6), 1200);
    }

    private static WetWalls mouldy(int damp, int warmth, int hours) {
        WetWalls x = Check.flatLayer(10, damp);
        x.hour(damp, warmth, 0, damp, warmth);
        x.pass(hours);
        return x;
    }

    // "MOULD is one more .., if DAMP is 800 at least"
    private static void mouldFromDamp800() {
        CHECK.due("mould of damp 800", mouldy(800, 20, 2).about(0, 7), 2);
        CHECK.due("mould of damp 799", mouldy(799, 20, 2).about(0, 7), 0);
        CHECK.due("mould of damp 1000", mouldy(1000, 20, 2).about(0, 7), 2);
    }

    // "and WARMTH 5 at least"
    private static void mouldFromWarmth5() {
        CHECK.due("mould at 5", mouldy(800, 5, 2).about(0, 7), 2);
        CHECK.due("mould at 4", mouldy(800, 4, 2).about(0, 7), 0);
        CHECK.due("mould at 50", mouldy(800, 50, 2).about(0, 7), 2);
        CHECK.due("mould at -30", mouldy(800, -30, 2).about(0, 7), 0);
        WetWalls x = Check.flatLayer(10, 800);
        x.hour(800, 4, 0, 800, 5);
        x.pass(1);
        CHECK.due("mould where warmth is rounded down to 4", x.about(0, 7), 0);
        x.fair();
        x.hour(800, 5, 0, 800, 6);
        x.pass(1);
        CHECK.due("mould where warmth is rounded down to 5", x.about(0, 7), 1);
    }

    private static void changeWeather(WetWalls x, int damp, int warmth) {
        x.fair();
        x.hour(damp, warmth, 0, damp, warmth);
    }

    // "(1000 at most)"
    private static void mouldAtMost1000() {
        WetWalls x = mouldy(800, 5, 240);
        x.pass(240);
        x.pass(240);
        x.pass(240);
        x.pass(39);
        CHECK.due("mould of 999 hours", x.about(0, 7), 999);
        x.pass(1);
        CHECK.due("mould of 1000 hours", x.about(0, 7), 1000);
        x.pass(1);
        CHECK.due("mould of 1001 hours", x.about(0, 7), 1000);
        x.pass(240);
        CHECK.due("mould of many hours", x.about(0, 7), 1000);
        changeWeather(x, 800, 4);
        x.pass(1);
        CHECK.due("mould, one less than the most", x.about(0, 7), 999);
        x.pass(9);
        CHECK.due("mould, ten less than the most", x.about(0, 7), 990);
    }

    // "else one less (0 at least)"
    private static void mouldAtLeast0() {
        WetWalls x = mouldy(800, 5, 2);
        changeWeather(x, 800, 4);
        x.pass(1);
        CHECK.due("mould, one less by cold", x.about(0, 7), 1);
        Check.flatten(x, 0, 799);
        changeWeather(x, 799, 20);
        x.pass(1);
        CHECK.due("mould, one less by dryness", x.about(0, 7), 0);
        x.pass(1);
        CHECK.due("mould, no less than 0", x.about(0, 7), 0);
        x.pass(240);
        Check.flatten(x, 0, 800);
        changeWeather(x, 800, 20);
        x.pass(1);
        CHECK.due("mould, one more than 0", x.about(0, 7), 1);
    }

    // "Then of each LAYER": by the water and damp that all borders have left.
    private static void frostAndMouldBehindTheBorders() {
        WetWalls x = Check.flatLayer(10, 800);
        x.water(0, 10);
        x.hour(800, -1, 0, 797, -1);
        x.pass(1);
        CHECK.due("one has gone inside", x.about(0, 4), 9);
        CHECK.due("so there is no frost", x.about(0, 6), 0);
        WetWalls y = new WetWalls();
        y.layer(10, 1, 1, 0);
        y.water(0, 7);
        y.hour(700, 20, 0, 802, 20);
        y.pass(1);
        CHECK.due("water has come from inside", y.about(0, 4), 10);
        CHECK.due("so there is mould", y.about(0, 7), 1);
    }
}
