/** Each promise of the document, with answers worked out by hand from its words. */
public final class PromisesTest {
    private static final int SMALLEST = Integer.MIN_VALUE;
    private static final int LARGEST = Integer.MAX_VALUE;

    private static int wrong = 0;

    private static void due(String what, long got, long want) {
        if (got != want) {
            wrong++;
            System.out.println(what + " answered " + got + ", due is " + want);
        }
    }

    public static void main(String[] args) {
        newObject();
        layer();
        clear();
        corner();
        water();
        aboutDamp();
        aboutWarmth();
        hour();
        fair();
        share();
        passRefusals();
        passOneLayer();
        passTwoLayers();
        passBackward();
        passRain();
        frost();
        mould();
        nextHour();
        steady();
        steadyRefusals();
        sum();
        pressure();
        saturationBelowZero();
        warmth();
        excess();
        best();
        bestOfEqual();
        arrange();
        oldWayRefusals();
        read();
        forget();
        fits();
        fitsFromNow();
        fitsRefusals();
        count();
        digest();
        System.out.println(wrong == 0 ? "all promises hold" : wrong + " answers are wrong");
        System.exit(wrong == 0 ? 0 : 1);
    }

    private static WetWalls oneLayer(int room, int steam, int heat) {
        WetWalls x = new WetWalls();
        due("layer", x.layer(room, steam, heat, 0), 1);
        return x;
    }

    /** A wall of one layer whose damp is 0 whatever it holds. */
    private static WetWalls dullLayer(int room) {
        WetWalls x = oneLayer(room, 1, 1);
        for (int k = 1; k <= 4; k++) {
            x.corner(0, k, 0);
        }
        return x;
    }

    private static void newObject() {
        WetWalls x = new WetWalls();
        int[] counts = {0, 0, 0, 10, 0, 0, 0};
        for (int what = 0; what < 7; what++) {
            due("new: count " + what, x.count(what), counts[what]);
        }
        for (int what = 0; what < 5; what++) {
            due("new: sum " + what, x.sum(what), 0);
        }
        for (int curve = 0; curve < 3; curve++) {
            for (int k = 0; k < 5; k++) {
                due("new: corner " + curve + " " + k, x.corner(curve, k, 250 * k), 250 * k);
            }
        }
        due("NONE", WetWalls.NONE, -1);
        due("UNKNOWN", WetWalls.UNKNOWN, -101);
        due("OUTSIDE", WetWalls.OUTSIDE, -102);
        due("STATE", WetWalls.STATE, -103);
        due("FULL", WetWalls.FULL, -104);
    }

    private static void layer() {
        WetWalls x = new WetWalls();
        int[][] outside = {
            {0, 1, 1, 0}, {1001, 1, 1, 0}, {SMALLEST, 1, 1, 0}, {LARGEST, 1, 1, 0},
            {1, 0, 1, 0}, {1, 51, 1, 0}, {1, 1, 0, 0}, {1, 1, 51, 0}, {1, 1, 1, -1}, {1, 1, 1, 3}};
        for (int[] v : outside) {
            due("layer outside", x.layer(v[0], v[1], v[2], v[3]), WetWalls.OUTSIDE);
        }
        due("layer: none came", x.count(0), 0);
        due("layer least", x.layer(1, 1, 1, 0), 1);
        due("layer most", x.layer(1000, 50, 50, 2), 2);
        for (int i = 3; i <= 6; i++) {
            due("layer", x.layer(10 * i, i, i + 1, 1), i);
        }
        due("layer full", x.layer(5, 5, 5, 1), WetWalls.FULL);
        due("layer outside ahead of full", x.layer(0, 5, 5, 1), WetWalls.OUTSIDE);
        due("layer: inside of the others", x.about(5, 0), 60);
        due("layer: six stay", x.count(0), 6);
    }

    private static void clear() {
        WetWalls x = oneLayer(10, 1, 1);
        x.layer(20, 1, 1, 2);
        x.water(1, 12);
        x.hour(1000, 5, 100, 0, 5);
        x.hour(1000, 5, 100, 0, 5);
        x.read(0, 1, 0, 1000);
        x.share(7);
        x.corner(2, 1, 300);
        x.fits();
        x.pass(1);
        due("clear", x.clear(), 2);
        due("clear again", x.clear(), 0);
        int[] counts = {0, 2, 1, 7, 0, 0, 1};
        for (int what = 0; what < 7; what++) {
            due("clear: count " + what, x.count(what), counts[what]);
        }
        for (int what = 0; what < 5; what++) {
            due("clear: sum " + what, x.sum(what), 0);
        }
        due("clear: curves stay", x.corner(2, 1, 250), 300);
        due("clear: a new layer", x.layer(30, 2, 3, 1), 1);
        int[] told = {30, 2, 3, 1, 0, 0, 0, 0, 0};
        for (int what = 0; what < 9; what++) {
            due("clear: about " + what, x.about(0, what), told[what]);
        }
    }

    private static void corner() {
        WetWalls x = new WetWalls();
        int[][] unknown = {{-1, 0}, {3, 0}, {0, -1}, {0, 5}, {SMALLEST, 0}, {0, LARGEST}};
        for (int[] v : unknown) {
            due("corner unknown", x.corner(v[0], v[1], 0), WetWalls.UNKNOWN);
            due("corner unknown ahead of outside", x.corner(v[0], v[1], -1), WetWalls.UNKNOWN);
        }
        int[][] outside = {
            {0, -1}, {0, 251}, {1, -1}, {1, 501}, {2, 249}, {2, 751}, {4, 749}, {4, 1001}, {3, SMALLEST}, {3, LARGEST}};
        for (int[] v : outside) {
            due("corner outside", x.corner(1, v[0], v[1]), WetWalls.OUTSIDE);
        }
        due("corner as the one behind", x.corner(1, 0, 250), 0);
        due("corner below the one ahead", x.corner(1, 1, 249), WetWalls.OUTSIDE);
        due("corner as the one ahead", x.corner(1, 4, 750), 1000);
        due("corner above the one behind", x.corner(1, 3, 751), WetWalls.OUTSIDE);
        due("corner: what it was", x.corner(1, 0, 100), 250);
        due("corner: other curves stay", x.corner(0, 0, 0), 0);
        due("corner: other curves stay", x.corner(2, 4, 1000), 1000);
    }

    private static void water() {
        WetWalls x = oneLayer(40, 1, 1);
        x.layer(50, 1, 1, 0);
        due("water", x.water(0, 40), 0);
        due("water", x.water(0, 15), 40);
        due("water", x.water(1, 50), 0);
        due("water above room", x.water(0, 41), WetWalls.OUTSIDE);
        due("water below 0", x.water(0, -1), WetWalls.OUTSIDE);
        due("water of no layer", x.water(2, 0), WetWalls.UNKNOWN);
        due("water of no layer", x.water(-1, -1), WetWalls.UNKNOWN);
        due("water of no layer", x.water(SMALLEST, 0), WetWalls.UNKNOWN);
        due("water: by hand", x.sum(4), 65);
        due("water: of all", x.count(5), 65);
        due("water: all out", x.water(1, 0), 50);
        due("water: all out", x.water(0, 0), 15);
        due("water: by hand", x.sum(4), 0);
    }

    private static void aboutDamp() {
        WetWalls x = oneLayer(10, 2, 3);
        x.layer(7, 4, 5, 1);
        x.layer(30, 6, 7, 2);
        x.corner(2, 1, 100);
        x.corner(2, 3, 900);
        x.water(0, 3);
        x.water(1, 3);
        x.water(2, 20);
        int[][] told = {{10, 2, 3, 0, 3, 300, 0, 0, 0}, {7, 4, 5, 1, 3, 428, 0, 0, 0}, {30, 6, 7, 2, 20, 766, 0, 0, 0}};
        for (int i = 0; i < 3; i++) {
            for (int what = 0; what < 9; what++) {
                due("about " + i + " " + what, x.about(i, what), told[i][what]);
            }
        }
        x.corner(2, 4, 950);
        x.water(2, 30);
        due("about: damp of a full layer", x.about(2, 5), 950);
        x.corner(2, 0, 60);
        x.water(2, 0);
        due("about: damp of a dry layer", x.about(2, 5), 60);
        due("about outside", x.about(0, 9), WetWalls.OUTSIDE);
        due("about outside", x.about(0, -1), WetWalls.OUTSIDE);
        due("about unknown", x.about(3, 0), WetWalls.UNKNOWN);
        due("about unknown ahead of outside", x.about(-1, 9), WetWalls.UNKNOWN);
    }

    private static void aboutWarmth() {
        WetWalls x = oneLayer(10, 1, 1);
        x.layer(10, 1, 9, 0);
        x.layer(10, 1, 2, 0);
        x.hour(0, -5, 0, 0, 21);
        x.hour(0, 0, 0, 0, -1);
        x.pass(1);
        // The whole way is 4 and twice 12, so 28; to the middles it is 3, 13 and 24.
        due("about: warmth", x.about(0, 8), -3);
        due("about: warmth", x.about(1, 8), 7);
        due("about: warmth", x.about(2, 8), 17);
        due("about: a new layer has had no hour", x.layer(10, 1, 1, 0), 4);
        due("about: warmth ahead of any hour", x.about(3, 8), 0);
        x.pass(1);
        due("about: warmth is rounded down", x.about(0, 8), -1);
        x.fair();
        due("about: warmth stays without weather", x.about(0, 8), -1);
    }

    private static void hour() {
        WetWalls x = new WetWalls();
        int[][] outside = {
            {-1, 0, 0, 0, 0}, {1001, 0, 0, 0, 0}, {0, -31, 0, 0, 0}, {0, 51, 0, 0, 0}, {0, 0, -1, 0, 0},
            {0, 0, 101, 0, 0}, {0, 0, 0, -1, 0}, {0, 0, 0, 1001, 0}, {0, 0, 0, 0, -31}, {0, 0, 0, 0, 51},
            {SMALLEST, 0, 0, 0, 0}, {0, LARGEST, 0, 0, 0}};
        for (int[] v : outside) {
            due("hour outside", x.hour(v[0], v[1], v[2], v[3], v[4]), WetWalls.OUTSIDE);
        }
        due("hour least", x.hour(0, -30, 0, 0, -30), 1);
        due("hour most", x.hour(1000, 50, 100, 1000, 50), 2);
        for (int i = 3; i <= 24; i++) {
            due("hour", x.hour(i, i, i, i, i), i);
        }
        due("hour full", x.hour(1, 1, 1, 1, 1), WetWalls.FULL);
        due("hour outside ahead of full", x.hour(1, 1, 1, 1, 51), WetWalls.OUTSIDE);
        due("hour: how many", x.count(1), 24);
    }

    private static void fair() {
        WetWalls x = oneLayer(10, 1, 1);
        due("fair of none", x.fair(), 0);
        x.hour(0, 0, 0, 0, 0);
        x.hour(0, 0, 0, 0, 0);
        x.pass(1);
        due("fair: next", x.count(2), 1);
        due("fair", x.fair(), 2);
        due("fair: no hours", x.count(1), 0);
        due("fair: next", x.count(2), 0);
        due("fair: layers stay", x.count(0), 1);
    }

    private static void share() {
        WetWalls x = new WetWalls();
        due("share", x.share(0), 10);
        due("share", x.share(10), 0);
        due("share outside", x.share(11), WetWalls.OUTSIDE);
        due("share outside", x.share(-1), WetWalls.OUTSIDE);
        due("share", x.share(3), 10);
        due("share", x.count(3), 3);
    }

    private static void passRefusals() {
        WetWalls x = new WetWalls();
        due("pass outside ahead of state", x.pass(0), WetWalls.OUTSIDE);
        due("pass outside ahead of state", x.pass(241), WetWalls.OUTSIDE);
        due("pass of nothing", x.pass(1), WetWalls.STATE);
        x.hour(0, 0, 0, 0, 0);
        due("pass without layers", x.pass(1), WetWalls.STATE);
        x.fair();
        x.layer(1, 1, 1, 0);
        due("pass without hours", x.pass(1), WetWalls.STATE);
        x.hour(0, 0, 0, 0, 0);
        due("pass", x.pass(240), 0);
        due("pass outside", x.pass(-1), WetWalls.OUTSIDE);
    }

    private static void passOneLayer() {
        WetWalls x = oneLayer(100, 1, 1);
        x.hour(1000, -10, 50, 0, 10);
        due("pass", x.pass(1), 0);
        // Rain 50, then 250 would come from outside and 50 have room, then 500 would go inside and 100 are there.
        int[] sums = {50, 0, 50, -100, 0};
        for (int what = 0; what < 5; what++) {
            due("pass: sum " + what, x.sum(what), sums[what]);
        }
        due("pass: water", x.about(0, 4), 0);
        due("pass: warmth", x.about(0, 8), 0);
    }

    private static void passTwoLayers() {
        WetWalls x = oneLayer(1000, 1, 1);
        x.layer(1000, 3, 1, 0);
        x.hour(1000, 20, 0, 0, 20);
        x.pass(1);
        // 500 come in; of damp 500 then 500 by 4 go on; of damp 125 then 125 by 4 go inside.
        due("pass: water 0", x.about(0, 4), 375);
        due("pass: water 1", x.about(1, 4), 94);
        due("pass: from outside", x.sum(2), 500);
        due("pass: from inside", x.sum(3), -31);

        WetWalls y = oneLayer(1000, 1, 1);
        y.layer(50, 1, 1, 0);
        y.water(0, 900);
        y.hour(900, 20, 0, 1000, 20);
        y.pass(1);
        due("pass: no more than has room", y.about(0, 4), 850);
        due("pass: no more than has room", y.about(1, 4), 50);
        due("pass: nothing from inside", y.sum(3), 0);
    }

    private static void passBackward() {
        WetWalls x = oneLayer(1000, 2, 1);
        x.water(0, 500);
        x.hour(0, 20, 0, 1000, 20);
        x.pass(1);
        // -500 by 3 is -166, cut toward 0; water 334 has damp 334; -666 by 3 is -222.
        due("pass: back to outside", x.sum(2), -166);
        due("pass: back from inside", x.sum(3), 222);
        due("pass: water", x.about(0, 4), 556);

        WetWalls y = oneLayer(1000, 1, 1);
        y.layer(1000, 1, 1, 0);
        y.water(1, 1000);
        y.hour(0, 20, 0, 1000, 20);
        y.pass(1);
        // -1000 by 2 goes back over the middle border; then inside gives (500 less 1000) by 2.
        due("pass: back over the middle", y.about(0, 4), 500);
        due("pass: inside gives", y.about(1, 4), 750);
    }

    private static void passRain() {
        WetWalls x = dullLayer(30);
        x.share(5);
        x.hour(0, 0, 7, 0, 0);
        x.hour(0, 0, 100, 0, 0);
        due("pass: next", x.pass(1), 1);
        due("pass: share of rain is rounded down", x.sum(0), 3);
        due("pass: nothing ran off", x.sum(1), 0);
        due("pass: next", x.pass(1), 0);
        due("pass: rain that had room", x.sum(0), 30);
        due("pass: rain that ran off", x.sum(1), 23);
        due("pass: water", x.about(0, 4), 30);
        x.share(0);
        x.pass(2);
        due("pass: no share, no rain", x.sum(1), 23);
    }

    private static void frost() {
        WetWalls x = oneLayer(10, 1, 1);
        x.hour(1000, -1, 0, 1000, -1);
        x.water(0, 10);
        x.pass(2);
        due("frost", x.about(0, 6), 2);
        x.fair();
        x.hour(1000, 0, 0, 1000, 0);
        x.pass(1);
        due("frost: not at 0", x.about(0, 6), 2);
        x.fair();
        x.water(0, 9);
        x.hour(900, -20, 0, 900, -20);
        x.pass(1);
        due("frost: water is nine tenths", x.about(0, 4), 9);
        due("frost: not at nine tenths", x.about(0, 6), 2);
    }

    private static void mould() {
        WetWalls x = oneLayer(5, 1, 1);
        x.water(0, 4);
        x.hour(800, 5, 0, 800, 5);
        x.pass(3);
        due("mould: damp is 800", x.about(0, 5), 800);
        due("mould", x.about(0, 7), 3);
        x.fair();
        x.hour(800, 4, 0, 800, 4);
        x.pass(1);
        due("mould: one less, too cold", x.about(0, 7), 2);
        x.pass(5);
        due("mould: 0 at least", x.about(0, 7), 0);
        x.fair();
        x.hour(800, 20, 0, 800, 20);
        for (int i = 0; i < 5; i++) {
            x.pass(240);
        }
        due("mould: 1000 at most", x.about(0, 7), 1000);

        WetWalls y = oneLayer(1000, 1, 1);
        y.water(0, 799);
        y.hour(799, 20, 0, 799, 20);
        y.pass(1);
        due("mould: damp is 799", y.about(0, 5), 799);
        due("mould: too dry", y.about(0, 7), 0);
    }

    private static void nextHour() {
        WetWalls x = oneLayer(10, 1, 1);
        for (int i = 0; i < 3; i++) {
            x.hour(0, i, 0, 0, i);
        }
        due("next hour", x.pass(2), 2);
        due("next hour", x.count(2), 2);
        due("next hour: the last one is used", x.pass(1), 0);
        due("next hour: its warmth", x.about(0, 8), 2);
        due("next hour", x.pass(7), 1);
        due("next hour: its warmth", x.about(0, 8), 0);
        x.hour(0, 9, 0, 0, 9);
        due("next hour: a new last hour", x.pass(3), 0);
        due("next hour: its warmth", x.about(0, 8), 9);
    }

    private static void steady() {
        WetWalls x = dullLayer(30);
        x.hour(0, 0, 10, 0, 0);
        due("steady: none so", x.steady(2), WetWalls.NONE);
        due("steady: they were done", x.about(0, 4), 20);
        due("steady: they were done", x.sum(0), 20);
        due("steady: that one too", x.steady(60), 2);
        due("steady", x.about(0, 4), 30);
        due("steady: ran off", x.sum(1), 10);
        due("steady: at once", x.steady(1), 1);
        due("steady: it was done", x.sum(1), 20);

        WetWalls y = oneLayer(100, 1, 1);
        y.hour(1000, 0, 0, 1000, 0);
        y.hour(0, 0, 0, 0, 0);
        y.hour(0, 0, 0, 0, 0);
        due("steady: changes within a round", y.steady(5), 1);
        due("steady: all hours of a round", y.sum(2), -y.sum(3));
        due("steady: next", y.count(2), 0);
    }

    private static void steadyRefusals() {
        WetWalls x = new WetWalls();
        due("steady outside ahead of state", x.steady(0), WetWalls.OUTSIDE);
        due("steady outside ahead of state", x.steady(61), WetWalls.OUTSIDE);
        due("steady of nothing", x.steady(1), WetWalls.STATE);
        x.layer(10, 1, 1, 0);
        due("steady without hours", x.steady(1), WetWalls.STATE);
        x.hour(0, 0, 0, 0, 0);
        x.hour(0, 0, 0, 0, 0);
        x.pass(1);
        due("steady within a round", x.steady(1), WetWalls.STATE);
        due("steady outside within a round", x.steady(LARGEST), WetWalls.OUTSIDE);
        x.pass(1);
        due("steady", x.steady(60), 1);
        x.clear();
        due("steady without layers", x.steady(1), WetWalls.STATE);
    }

    private static void sum() {
        WetWalls x = oneLayer(1000, 1, 1);
        int[] outside = {-1, 5, SMALLEST, LARGEST};
        for (int what : outside) {
            due("sum outside", x.sum(what), -1000000001);
        }
        x.water(0, 300);
        x.water(0, 100);
        x.layer(500, 3, 2, 1);
        x.hour(700, 4, 60, 20, 18);
        x.hour(100, 4, 0, 900, 18);
        x.pass(9);
        due("sum: all water came from somewhere", x.sum(0) + x.sum(2) + x.sum(3) + x.sum(4), x.count(5));
        due("sum: by hand", x.sum(4), 100);
        due("sum: all rain", x.sum(0) + x.sum(1), 5 * 60);
    }

    private static WetWalls threeLayers() {
        WetWalls x = oneLayer(10, 1, 1);
        x.layer(10, 3, 9, 0);
        x.layer(10, 2, 2, 0);
        return x;
    }

    private static void pressure() {
        WetWalls x = threeLayers();
        x.hour(500, 10, 0, 1000, 20);
        x.hour(1000, 20, 0, 500, 10);
        int[][] want = {{500, 725, 1062, 1400}, {1400, 1175, 837, 500}};
        for (int hour = 0; hour < 2; hour++) {
            for (int face = 0; face < 4; face++) {
                due("pressure " + hour + " " + face, x.pressure(hour, face), want[hour][face]);
            }
        }
    }

    private static void saturationBelowZero() {
        WetWalls x = threeLayers();
        x.hour(999, -5, 0, 1000, -30);
        x.hour(1000, 0, 0, 1000, -1);
        due("pressure: rounded down", x.pressure(0, 0), 499);
        due("pressure: coldest", x.pressure(0, 3), 0);
        due("pressure: at 0", x.pressure(1, 0), 600);
        due("pressure: at -1", x.pressure(1, 3), 580);
    }

    private static void warmth() {
        WetWalls x = threeLayers();
        x.hour(500, -5, 0, 1000, 21);
        x.hour(500, 21, 0, 1000, -5);
        // The whole way is 14; to the seams it is 2 and 11.
        int[][] want = {{-5, -2, 15, 21}, {21, 17, 0, -5}};
        for (int hour = 0; hour < 2; hour++) {
            for (int face = 0; face < 4; face++) {
                due("warmth " + hour + " " + face, x.warmth(hour, face), want[hour][face]);
            }
        }
    }

    private static WetWalls steamTightOutside() {
        WetWalls x = oneLayer(100, 10, 1);
        x.layer(200, 1, 10, 1);
        x.hour(800, -10, 0, 600, 20);
        return x;
    }

    private static void excess() {
        WetWalls x = steamTightOutside();
        // Pressure 320 and 520 times 11 by 13; warmth -10 and 30 times 2 by 13, so -6.
        due("excess: pressure", x.pressure(0, 1), 760);
        due("excess: warmth", x.warmth(0, 1), -6);
        due("excess", x.excess(0, 1), 280);
        x.hour(100, 20, 0, 100, 20);
        due("excess: 0 if below", x.excess(1, 1), 0);
    }

    private static void best() {
        WetWalls x = steamTightOutside();
        long before = x.digest();
        due("best", x.best(0), 0);
        due("placed", x.placed(0, 0), 1);
        due("placed", x.placed(0, 1), 0);
        due("placed: none", x.placed(0, 2), WetWalls.NONE);
        due("placed: none", x.placed(0, -1), WetWalls.NONE);
        due("placed: none", x.placed(0, SMALLEST), WetWalls.NONE);
        due("placed: none", x.placed(0, LARGEST), WetWalls.NONE);
        due("best: nothing is changed", x.digest(), before);
        WetWalls y = oneLayer(10, 4, 4);
        y.hour(1000, 0, 0, 1000, 0);
        due("best of one", y.best(0), 0);
        due("placed of one", y.placed(0, 0), 0);
        due("arrange of one", y.arrange(0), 0);
    }

    private static void bestOfEqual() {
        WetWalls x = new WetWalls();
        for (int i = 0; i < 6; i++) {
            x.layer(100 + i, 5, 5, 0);
        }
        x.hour(1000, -30, 0, 1000, 50);
        for (int i = 0; i < 6; i++) {
            due("placed of equal ones", x.placed(0, i), i);
        }
        due("best is the sum of all seams", x.best(0),
                x.excess(0, 1) + x.excess(0, 2) + x.excess(0, 3) + x.excess(0, 4) + x.excess(0, 5));
        due("arrange of equal ones", x.arrange(0), 0);
        due("arrange of equal ones", x.about(0, 0), 100);
    }

    private static void arrange() {
        WetWalls x = steamTightOutside();
        x.water(0, 100);
        x.water(1, 180);
        x.read(1, 2, 3, 4);
        x.fair();
        x.hour(1000, -10, 0, 0, -1);
        x.hour(800, -10, 0, 600, 20);
        x.pass(1);
        int[][] told = new int[2][9];
        for (int i = 0; i < 2; i++) {
            for (int what = 0; what < 9; what++) {
                told[i][what] = x.about(i, what);
            }
        }
        due("arrange: some frost ahead of it", x.about(0, 6), 1);
        int outside = x.sum(2);
        due("arrange", x.arrange(1), 2);
        for (int i = 0; i < 2; i++) {
            for (int what = 0; what < 9; what++) {
                due("arrange: about " + i + " " + what, x.about(i, what), told[1 - i][what]);
            }
        }
        due("arrange: sums stay", x.sum(2), outside);
        due("arrange: readings stay", x.count(4), 1);
        due("arrange: now in the best order", x.arrange(1), 0);
        due("arrange: next hour stays", x.count(2), 1);
    }

    private static void oldWayRefusals() {
        WetWalls x = new WetWalls();
        int[] noHours = {-1, 0, 1, SMALLEST, LARGEST};
        for (int hour : noHours) {
            oldWayAnswers(x, hour, 9, -10101, WetWalls.UNKNOWN);
        }
        x.hour(0, 0, 0, 0, 0);
        oldWayAnswers(x, 0, 9, -10103, WetWalls.STATE);
        oldWayAnswers(x, 1, 0, -10101, WetWalls.UNKNOWN);
        x.layer(10, 1, 1, 0);
        x.layer(10, 1, 1, 0);
        oldWayAnswers(x, 1, 0, -10101, WetWalls.UNKNOWN);
        int[] noFaces = {-1, 3, SMALLEST, LARGEST};
        for (int face : noFaces) {
            due("pressure at no face", x.pressure(0, face), -10101);
            due("warmth at no face", x.warmth(0, face), -10101);
            due("excess of no seam", x.excess(0, face), WetWalls.UNKNOWN);
        }
        due("excess outside", x.excess(0, 0), WetWalls.UNKNOWN);
        due("excess inside", x.excess(0, 2), WetWalls.UNKNOWN);
        due("excess", x.excess(0, 1), 0);
    }

    private static void oldWayAnswers(WetWalls x, int hour, int face, int far, int near) {
        due("pressure refuses", x.pressure(hour, face), far);
        due("warmth refuses", x.warmth(hour, face), far);
        due("excess refuses", x.excess(hour, face), near);
        due("best refuses", x.best(hour), near);
        due("placed refuses", x.placed(hour, face), near);
        due("arrange refuses", x.arrange(hour), near);
    }

    private static void read() {
        WetWalls x = oneLayer(10, 1, 1);
        due("read of no layer", x.read(1, 1, 0, 0), WetWalls.UNKNOWN);
        due("read of no layer, ahead of outside", x.read(-1, 0, 0, 0), WetWalls.UNKNOWN);
        int[][] outside = {
            {0, 0, 0}, {101, 0, 0}, {SMALLEST, 0, 0}, {1, -1, 0}, {1, 0, 1001}, {1, 1001, 1001}, {1, 2, 1}, {1, -2, -1}};
        for (int[] v : outside) {
            due("read outside", x.read(0, v[0], v[1], v[2]), WetWalls.OUTSIDE);
        }
        due("read least", x.read(0, 1, 0, 0), 1);
        due("read most", x.read(0, 100, 1000, 1000), 2);
        for (int i = 3; i <= 12; i++) {
            due("read", x.read(0, i, i, 10 * i), i);
        }
        due("read full", x.read(0, 1, 0, 0), WetWalls.FULL);
        due("read outside ahead of full", x.read(0, 1, 1, 0), WetWalls.OUTSIDE);
        due("read unknown ahead of full", x.read(1, 1, 0, 0), WetWalls.UNKNOWN);
    }

    private static void forget() {
        WetWalls x = oneLayer(10, 1, 1);
        due("forget none", x.forget(), 0);
        x.read(0, 1, 0, 0);
        x.read(0, 1, 0, 0);
        due("forget", x.forget(), 2);
        due("forget: none left", x.count(4), 0);
        due("forget: layers stay", x.count(0), 1);
    }

    /** Behind one hour its damp is 10 times the share up to 5, then 58, 68, 78, 88, 98. */
    private static WetWalls slowLayer() {
        WetWalls x = oneLayer(1000, 50, 1);
        x.hour(0, 0, 100, 0, 0);
        return x;
    }

    private static void fits() {
        WetWalls x = slowLayer();
        due("fits without readings", x.fits(), 2047);
        x.share(3);
        x.read(0, 1, 20, 58);
        long before = x.digest();
        due("fits", x.fits(), 4 + 8 + 16 + 32 + 64);
        due("fits: nothing but its own count is changed", x.digest(), before + 1);
        x.read(0, 2, 0, 60);
        due("fits: all readings", x.fits(), 4 + 8);
        x.read(0, 1, 21, 29);
        due("fits: none", x.fits(), 0);
        x.forget();
        x.read(0, 1, 98, 98);
        due("fits: the most", x.fits(), 1024);
        x.forget();
        x.read(0, 100, 0, 0);
        due("fits: the least", x.fits(), 1);
        due("fits: how often", x.count(6), 6);
    }

    private static void fitsFromNow() {
        WetWalls x = slowLayer();
        x.hour(0, 0, 0, 0, 0);
        x.share(4);
        x.read(0, 1, 40, 40);
        due("fits: with rain", x.fits(), 16);
        x.pass(1);
        due("fits: from the next hour on, without rain", x.fits(), 2047);
        x.forget();
        x.read(0, 2, 50, 50);
        due("fits: behind the last hour comes hour 0", x.fits(), 2);
        due("fits: water stays", x.about(0, 4), 40);
        due("fits: next hour stays", x.count(2), 1);
        due("fits: share stays", x.count(3), 4);
        due("fits: sums stay", x.sum(0), 40);
    }

    private static void fitsRefusals() {
        WetWalls x = new WetWalls();
        due("fits of nothing", x.fits(), WetWalls.STATE);
        x.layer(10, 1, 1, 0);
        due("fits without hours", x.fits(), WetWalls.STATE);
        x.hour(0, 0, 0, 0, 0);
        x.clear();
        due("fits without layers", x.fits(), WetWalls.STATE);
        x.layer(10, 1, 1, 0);
        due("fits: refusals are not counted", x.count(6), 0);
        for (int i = 0; i < 30; i++) {
            due("fits", x.fits(), 2047);
        }
        due("fits: 30 times", x.count(6), 30);
        due("fits once more", x.fits(), WetWalls.STATE);
        due("fits: 30 times", x.count(6), 30);
        x.clear();
        x.fair();
        x.layer(10, 1, 1, 0);
        x.hour(0, 0, 0, 0, 0);
        due("fits: not anew behind clear", x.fits(), WetWalls.STATE);
    }

    private static void count() {
        WetWalls x = threeLayers();
        x.hour(0, 0, 0, 0, 0);
        x.hour(0, 0, 0, 0, 0);
        x.share(6);
        x.read(0, 1, 0, 1000);
        x.fits();
        x.fits();
        x.pass(1);
        x.water(0, 4);
        x.water(2, 5);
        int[] want = {3, 2, 1, 6, 1, 9, 2};
        for (int what = 0; what < 7; what++) {
            due("count " + what, x.count(what), want[what]);
        }
        int[] outside = {-1, 7, SMALLEST, LARGEST};
        for (int what : outside) {
            due("count outside", x.count(what), WetWalls.OUTSIDE);
        }
    }

    private static void digest() {
        WetWalls x = oneLayer(10, 2, 3);
        x.layer(20, 4, 5, 2);
        x.corner(1, 2, 555);
        x.water(0, 7);
        x.hour(1, 2, 3, 4, 5);
        x.hour(800, -7, 90, 50, 20);
        x.share(9);
        x.read(1, 5, 6, 700);
        x.fits();
        x.pass(3);
        int[] corners = {0, 250, 500, 750, 1000, 0, 250, 555, 750, 1000, 0, 250, 500, 750, 1000};
        long h = 181;
        for (int v : corners) {
            h = 31 * h + v;
        }
        for (int i = 0; i < 2; i++) {
            for (int what = 0; what < 9; what++) {
                h = 31 * h + x.about(i, what);
            }
        }
        int[] hours = {1, 2, 3, 4, 5, 800, -7, 90, 50, 20};
        for (int v : hours) {
            h = 31 * h + v;
        }
        for (int what = 0; what < 5; what++) {
            h = 31 * h + x.sum(what);
        }
        int[] rest = {1, 5, 6, 700, 1, 9, 1};
        for (int v : rest) {
            h = 31 * h + v;
        }
        due("digest", x.digest(), h);
        due("digest: again", x.digest(), h);
    }
}
