/** The boundaries of weather's row and rounds: promises 7 to 12, and what the terms say of hours, share and rounds. */
public final class BoundaryWeatherTest {
    private static final Check CHECK = new Check();
    private static final int OUTSIDE = WetWalls.OUTSIDE;
    private static final int STATE = WetWalls.STATE;
    private static final int FULL = WetWalls.FULL;
    private static final int SUM_OUTSIDE = -1000000001;

    public static void main(String[] args) {
        hourNumberBounds(0, 0, 1000);
        hourNumberBounds(1, -30, 50);
        hourNumberBounds(2, 0, 100);
        hourNumberBounds(3, 0, 1000);
        hourNumberBounds(4, -30, 50);
        upTo24Hours();
        hourOutsideAheadOfFull();
        fairOfNothing();
        fairOfAFullRow();
        fairLeavesTheRest();
        shareFromZeroToTen();
        shareTenAtFirst();
        passFrom1To240();
        passDoesNoMoreThanItsHours();
        passWithoutLayersOrHours();
        passOutsideAheadOfState();
        nextHourBehindTheLastOne();
        nextHourOfOneHour();
        nextHourWhenHoursCome();
        steadyFrom1To60();
        steadyThatOneToo();
        steadyNoneBehindAllRounds();
        steadyOfAllLayers();
        steadyByWaterAlone();
        steadyAsItWasAheadOfTheRound();
        steadyState();
        steadyWithinARound();
        steadyOutsideAheadOfState();
        sumOutside();
        sumsBelowZero();
        sumsSinceTheWallWasEmpty();
        sumsOfALongRun();
        CHECK.end("the weather's boundaries");
    }

    private static long hourWith(WetWalls x, int place, int v) {
        int[] n = {500, 10, 20, 400, 15};
        n[place] = v;
        return x.hour(n[0], n[1], n[2], n[3], n[4]);
    }

    /** What digest() adds for an hour that comes last shows in it alone: all behind it is 0, but for the share. */
    private static long digestWith(int place, int v) {
        long h = 181;
        for (int curve = 0; curve < 3; curve++) {
            for (int k = 0; k < 5; k++) {
                h = 31 * h + 250 * k;
            }
        }
        int[] n = {500, 10, 20, 400, 15};
        n[place] = v;
        for (int number : n) {
            h = 31 * h + number;
        }
        for (int k = 0; k < 6; k++) {
            h = 31 * h;
        }
        return 31 * (31 * h + 10);
    }

    // "DAMP (0 to 1000) and WARMTH (-30 to 50) outside, RAIN (0 to 100), DAMP and WARMTH inside".
    private static void hourNumberBounds(int place, int least, int most) {
        for (int v : Check.ends(least, most)) {
            WetWalls x = new WetWalls();
            CHECK.due("hour with number " + place + " of " + v, hourWith(x, place, v), 1);
            CHECK.due("hour with number " + place + " of " + v + " has it", x.digest(), digestWith(place, v));
        }
        for (int v : Check.beyond(least, most)) {
            String what = "hour with number " + place + " of " + v;
            CHECK.same(what, WetWalls::new, x -> hourWith(x, place, v), OUTSIDE);
            CHECK.same(what, () -> Check.inUse(2), x -> hourWith(x, place, v), OUTSIDE);
        }
    }

    // "WEATHER is a row of up to 24 HOURS"; promise 7: "how many"; "FULL".
    private static void upTo24Hours() {
        WetWalls x = Check.layers(1);
        for (int i = 1; i <= 24; i++) {
            CHECK.due("hour " + i, x.hour(i, i, i, i, -i), i);
        }
        CHECK.due("a 25th hour", x.hour(1, 1, 1, 1, 1), FULL);
        CHECK.due("24 hours stay", x.count(1), 24);
        CHECK.due("the 24th hour is the last", x.warmth(23, 0), 24);
        CHECK.due("there is no hour 24", x.warmth(24, 0), -10101);
        CHECK.same("a 25th hour", Check::full, y -> y.hour(640, 3, 50, 310, 19), FULL);
    }

    // Promise 7: "OUTSIDE; FULL" - in this order.
    private static void hourOutsideAheadOfFull() {
        int[] wrong = {1001, 51, 101, 1001, 51};
        for (int place = 0; place < 5; place++) {
            int which = place;
            CHECK.same("hour outside ahead of full", Check::full, x -> hourWith(x, which, wrong[which]), OUTSIDE);
        }
    }

    // Promise 8: "how many there were" - none.
    private static void fairOfNothing() {
        CHECK.same("fair of nothing", WetWalls::new, WetWalls::fair, 0);
        CHECK.same("fair without hours", () -> Check.layers(3), WetWalls::fair, 0);
    }

    // Promise 8: "No HOURS; THE NEXT HOUR is 0".
    private static void fairOfAFullRow() {
        WetWalls x = Check.full();
        x.pass(23);
        CHECK.due("fair: the next hour was the last one", x.count(2), 23);
        CHECK.due("fair of 24", x.fair(), 24);
        CHECK.due("fair: no hours", x.count(1), 0);
        CHECK.due("fair: the next hour is 0", x.count(2), 0);
        CHECK.due("fair: there is no hour 0", x.best(0), WetWalls.UNKNOWN);
        CHECK.due("fair: nothing goes by", x.pass(1), STATE);
        for (int i = 1; i <= 24; i++) {
            CHECK.due("fair: 24 have place again", x.hour(0, 0, 0, 0, 0), i);
        }
        CHECK.due("fair: but no more", x.hour(0, 0, 0, 0, 0), FULL);
        CHECK.due("fair: from hour 0 on", x.pass(1), 1);
    }

    // Promise 8 names HOURS and THE NEXT HOUR alone: all else stays.
    private static void fairLeavesTheRest() {
        WetWalls x = Check.inUse(2);
        int[] told = new int[9];
        for (int what = 0; what < 9; what++) {
            told[what] = x.about(1, what);
        }
        int[] sums = {x.sum(0), x.sum(1), x.sum(2), x.sum(3), x.sum(4)};
        int water = x.count(5);
        x.fair();
        CHECK.dueAbout("fair leaves layers", x, 1, told);
        CHECK.dueSums("fair leaves sums", x, sums);
        CHECK.dueCounts("fair leaves the rest", x, 2, 0, 0, 7, 1, water, 0);
    }

    // "SHARE: 0 to 10"; promise 9: "what it was"; "OUTSIDE".
    private static void shareFromZeroToTen() {
        WetWalls x = new WetWalls();
        int was = 10;
        for (int v : new int[] {0, 10, 1, 9, 9}) {
            CHECK.due("share " + v, x.share(v), was);
            CHECK.due("share became " + v, x.count(3), v);
            was = v;
        }
        for (int v : Check.beyond(0, 10)) {
            CHECK.same("share " + v, WetWalls::new, y -> y.share(v), OUTSIDE);
            CHECK.same("share " + v, () -> Check.inUse(2), y -> y.share(v), OUTSIDE);
        }
    }

    // "(10 at first)"
    private static void shareTenAtFirst() {
        CHECK.due("share at first", new WetWalls().count(3), 10);
        WetWalls x = Check.flatLayer(100, 0);
        x.hour(0, 0, 100, 0, 0);
        x.pass(1);
        CHECK.due("all rain comes at first", x.sum(0), 100);
    }

    /** All rain of an hour runs off, one drop an hour: so what ran off counts the hours. */
    private static WetWalls hourGlass(int hours) {
        WetWalls x = Check.flatLayer(1, 0);
        x.water(0, 1);
        for (int i = 0; i < hours; i++) {
            x.hour(0, i, 1, 0, i);
        }
        return x;
    }

    // Promise 10: "n HOURS (1 to 240) go by"; "OUTSIDE".
    private static void passFrom1To240() {
        WetWalls x = hourGlass(1);
        CHECK.due("pass(1)", x.pass(1), 0);
        CHECK.due("one hour went by", x.sum(1), 1);
        CHECK.due("pass(240)", x.pass(240), 0);
        CHECK.due("240 hours more went by", x.sum(1), 241);
        for (int n : Check.beyond(1, 240)) {
            CHECK.same("pass(" + n + ")", () -> hourGlass(3), y -> y.pass(n), OUTSIDE);
            CHECK.same("pass(" + n + ")", () -> Check.inUse(3), y -> y.pass(n), OUTSIDE);
        }
    }

    // Promise 10: n hours, no more and no less, answering THE NEXT HOUR.
    private static void passDoesNoMoreThanItsHours() {
        for (int n : new int[] {1, 6, 7, 8, 239, 240}) {
            WetWalls x = hourGlass(7);
            CHECK.due("pass(" + n + ") of 7 hours", x.pass(n), n % 7);
            CHECK.due("pass(" + n + ") did so many", x.sum(1), n);
            CHECK.due("pass(" + n + "): warmth is of the latest", x.about(0, 8), (n - 1) % 7);
        }
    }

    private static WetWalls oneHour() {
        WetWalls x = new WetWalls();
        x.hour(500, 5, 50, 500, 5);
        return x;
    }

    // Promise 10: "STATE: there are no LAYERS, or no HOURS."
    private static void passWithoutLayersOrHours() {
        CHECK.same("pass of nothing", WetWalls::new, x -> x.pass(1), STATE);
        CHECK.same("pass without layers", BoundaryWeatherTest::oneHour, x -> x.pass(1), STATE);
        CHECK.same("pass without hours", () -> Check.layers(6), x -> x.pass(240), STATE);
        CHECK.same("pass behind clear", () -> {
            WetWalls x = Check.inUse(2);
            x.clear();
            return x;
        }, x -> x.pass(1), STATE);
        WetWalls least = oneHour();
        least.layer(1, 1, 1, 0);
        CHECK.due("pass with one of each", least.pass(1), 0);
    }

    // Promise 10: "OUTSIDE; STATE" - in this order.
    private static void passOutsideAheadOfState() {
        CHECK.same("pass outside ahead of state", WetWalls::new, x -> x.pass(0), OUTSIDE);
        CHECK.same("pass outside ahead of state", BoundaryWeatherTest::oneHour, x -> x.pass(241), OUTSIDE);
        CHECK.same("pass outside ahead of state", () -> Check.layers(1), x -> x.pass(-1), OUTSIDE);
    }

    // "THE NEXT HOUR is HOUR 0 of WEATHER at first, and behind the last one."
    private static void nextHourBehindTheLastOne() {
        WetWalls x = hourGlass(24);
        CHECK.due("next hour at first", x.count(2), 0);
        CHECK.due("next hour is the last one", x.pass(23), 23);
        CHECK.due("it has not gone by yet", x.about(0, 8), 22);
        CHECK.due("next hour behind the last one", x.pass(1), 0);
        CHECK.due("the last one has gone by", x.about(0, 8), 23);
        CHECK.due("next hour, told", x.count(2), 0);
        CHECK.due("next hour behind a whole row and one", x.pass(25), 1);
        CHECK.due("it was hour 0", x.about(0, 8), 0);
        CHECK.due("next hour behind ten rows", x.pass(240), 1);
    }

    // The same, when the last HOUR is HOUR 0.
    private static void nextHourOfOneHour() {
        WetWalls x = hourGlass(1);
        CHECK.due("next hour of one", x.pass(1), 0);
        CHECK.due("next hour of one", x.pass(2), 0);
        CHECK.due("next hour of one, told", x.count(2), 0);
    }

    // THE NEXT HOUR is told as 0 behind the last one, so it stays so when an HOUR comes then.
    private static void nextHourWhenHoursCome() {
        WetWalls x = hourGlass(2);
        x.pass(2);
        x.hour(0, 9, 1, 0, 9);
        CHECK.due("next hour when one comes behind the last", x.count(2), 0);
        CHECK.due("then hour 0 goes by", x.pass(1), 1);
        CHECK.due("then hour 0 goes by", x.about(0, 8), 0);
        WetWalls y = hourGlass(2);
        y.pass(1);
        y.hour(0, 9, 1, 0, 9);
        CHECK.due("what was last is so no more", y.pass(1), 2);
        CHECK.due("behind the new last one", y.pass(1), 0);
        CHECK.due("the new last one went by", y.about(0, 8), 9);
    }

    /** Its layer takes 10 drops a round, until it is full. */
    private static WetWalls fillingLayer(int room) {
        WetWalls x = Check.flatLayer(room, 0);
        x.hour(0, 0, 4, 0, 0);
        x.hour(0, 0, 6, 0, 0);
        return x;
    }

    // Promise 11: "n ROUNDS (1 to 60)"; "OUTSIDE".
    private static void steadyFrom1To60() {
        WetWalls x = fillingLayer(590);
        CHECK.due("steady(60), the 60th is so", x.steady(60), 60);
        CHECK.due("60 rounds were done", x.sum(0) + x.sum(1), 600);
        CHECK.due("steady(1), the first is so", x.steady(1), 1);
        CHECK.due("one round was done", x.sum(0) + x.sum(1), 610);
        for (int n : Check.beyond(1, 60)) {
            CHECK.same("steady(" + n + ")", () -> fillingLayer(35), y -> y.steady(n), OUTSIDE);
        }
    }

    // Promise 11: "until one leaves WATER of all LAYERS as it was ahead of it: how many were done, that one too".
    private static void steadyThatOneToo() {
        for (int n : new int[] {4, 5, 60}) {
            WetWalls x = fillingLayer(30);
            CHECK.due("steady(" + n + "), the fourth is so", x.steady(n), 4);
            CHECK.due("three brought rain", x.sum(0), 30);
            CHECK.due("of the fourth all ran off", x.sum(1), 10);
            CHECK.due("next hour behind steady", x.count(2), 0);
        }
    }

    // Promise 11: "NONE: n ROUNDS (1 to 60) were done and none was so."
    private static void steadyNoneBehindAllRounds() {
        WetWalls x = fillingLayer(30);
        CHECK.due("steady(3), none is so yet", x.steady(3), WetWalls.NONE);
        CHECK.due("three were done", x.sum(0), 30);
        CHECK.due("the fourth was not", x.sum(1), 0);
        CHECK.due("next hour behind none", x.count(2), 0);
        WetWalls y = fillingLayer(1000);
        CHECK.due("steady(1), it is not so", y.steady(1), WetWalls.NONE);
        CHECK.due("one was done", y.sum(0), 10);
        WetWalls z = fillingLayer(591);
        CHECK.due("steady(60), the 60th brings the last drop", z.steady(60), WetWalls.NONE);
        CHECK.due("60 were done", z.sum(0) + z.sum(1), 600);
        CHECK.due("the next is so", z.steady(60), 1);
    }

    // Promise 11: "WATER of all LAYERS": the innermost alone takes a drop of inside an hour.
    private static void steadyOfAllLayers() {
        for (int n : new int[] {2, 6}) {
            WetWalls x = new WetWalls();
            for (int i = 0; i < n; i++) {
                x.layer(3, 1, 1, 0);
            }
            Check.flatten(x, 0, 0);
            x.hour(0, 0, 0, 2, 0);
            CHECK.due("steady by the innermost of " + n, x.steady(60), 4);
            CHECK.due("the innermost is full", x.about(n - 1, 4), 3);
        }
    }

    // Promise 11: WATER alone tells, not FROST or MOULD.
    private static void steadyByWaterAlone() {
        WetWalls x = Check.flatLayer(10, 800);
        x.water(0, 10);
        x.hour(800, 5, 0, 800, 5);
        x.hour(800, -1, 0, 800, -1);
        x.hour(800, 5, 0, 800, 5);
        CHECK.due("steady with frost and mould", x.steady(5), 1);
        CHECK.due("frost has grown", x.about(0, 6), 1);
        CHECK.due("mould has grown", x.about(0, 7), 1);
    }

    // Promise 11: "as it was ahead of it", whatever goes on within; and not as it was some ROUNDS ago.
    private static void steadyAsItWasAheadOfTheRound() {
        WetWalls x = Check.flatLayer(10, 10);
        x.hour(30, 0, 0, 10, 0);
        x.hour(10, 0, 0, 0, 0);
        x.hour(10, 0, 0, 0, 0);
        CHECK.due("water comes and goes within a round", x.steady(9), 1);
        CHECK.due("water came", x.sum(2), 10);
        CHECK.due("water went", x.sum(3), -10);
    }

    // Promise 11: "STATE: as pass()".
    private static void steadyState() {
        CHECK.same("steady of nothing", WetWalls::new, x -> x.steady(1), STATE);
        CHECK.same("steady without layers", BoundaryWeatherTest::oneHour, x -> x.steady(1), STATE);
        CHECK.same("steady without hours", () -> Check.layers(2), x -> x.steady(60), STATE);
    }

    // Promise 11: "or THE NEXT HOUR is not 0".
    private static void steadyWithinARound() {
        for (int passed : new int[] {1, 23}) {
            CHECK.same("steady behind " + passed + " hours", () -> {
                WetWalls x = Check.full();
                x.pass(passed);
                return x;
            }, x -> x.steady(3), STATE);
        }
        WetWalls y = hourGlass(24);
        y.pass(24);
        CHECK.due("steady behind a whole row", y.steady(3), 1);
        y.pass(1);
        CHECK.due("steady within a round", y.steady(3), STATE);
        y.fair();
        y.hour(0, 0, 0, 0, 0);
        CHECK.due("steady behind fair", y.steady(3), 1);
    }

    // Promise 11: "OUTSIDE; STATE" - in this order.
    private static void steadyOutsideAheadOfState() {
        CHECK.same("steady outside ahead of state", WetWalls::new, x -> x.steady(0), OUTSIDE);
        CHECK.same("steady outside ahead of state", () -> Check.inUse(2), x -> x.steady(61), OUTSIDE);
    }

    // Promise 12: "what = 0 .. 4"; "OUTSIDE (as -1000000001)".
    private static void sumOutside() {
        for (int what : Check.beyond(0, 4)) {
            CHECK.same("sum(" + what + ")", WetWalls::new, x -> x.sum(what), SUM_OUTSIDE);
            CHECK.same("sum(" + what + ")", () -> Check.inUse(2), x -> x.sum(what), SUM_OUTSIDE);
        }
        CHECK.same("sum(4)", () -> Check.layers(2), x -> x.sum(4), 0);
        CHECK.same("sum(0)", () -> Check.layers(2), x -> x.sum(0), 0);
    }

    // Promise 12: "2 from outside (less what went out), 3 from inside (likewise)".
    private static void sumsBelowZero() {
        WetWalls x = Check.flatLayer(1000, 500);
        x.water(0, 1000);
        x.hour(0, 0, 0, 0, 0);
        x.pass(1);
        CHECK.dueSums("water goes out both ways", x, 0, 0, -250, -250, 1000);
        x.fair();
        x.hour(1000, 0, 0, 1000, 0);
        x.pass(1);
        CHECK.dueSums("and comes back both ways", x, 0, 0, 0, 0, 1000);
        CHECK.due("all is there again", x.count(5), 1000);
        x.fair();
        x.hour(400, 0, 0, 298, 0);
        x.pass(1);
        CHECK.dueSums("sums that look like a refusal", x, 0, 0, -50, -101, 1000);
    }

    // Promise 12: "since the WALL was empty of LAYERS".
    private static void sumsSinceTheWallWasEmpty() {
        WetWalls x = Check.inUse(3);
        x.pass(20);
        x.layer(10, 1, 1, 1);
        x.fair();
        x.forget();
        int rain = x.sum(0) + x.sum(1);
        CHECK.due("sums stay with layers, fair, forget", rain, 7 * (8 + 0 + 21));
        CHECK.due("sums stay by hand", x.sum(4), 18);
        x.clear();
        CHECK.dueSums("sums behind clear", x, 0, 0, 0, 0, 0);
        x.layer(10, 1, 1, 1);
        CHECK.dueSums("sums with a new layer", x, 0, 0, 0, 0, 0);
        x.water(0, 3);
        CHECK.dueSums("sums from then on", x, 0, 0, 0, 0, 3);
    }

    // "An object is used for at most 512 calls"; no bound is told for sums, so they grow up to the last call.
    private static void sumsOfALongRun() {
        WetWalls x = Check.flatLayer(1, 0);
        x.water(0, 1);
        x.hour(0, 0, 100, 0, 0);
        int callsSoFar = 13;
        for (int i = callsSoFar; i < 511; i++) {
            x.pass(240);
        }
        CHECK.due("what ran off in 498 times 240 hours, as the 512th call", x.sum(1), 498 * 240 * 100);
    }
}
