import java.util.ArrayList;
import java.util.List;
import java.util.Random;

/** Random runs of calls, each answer held against a slow model that follows the document's words. */
public final class ModelTest {
    private static final int RUNS = 400;
    private static final int CALLS = 511;

    public static void main(String[] args) {
        int wrong = 0;
        for (int run = 0; run < RUNS && wrong < 10; run++) {
            wrong += runDiffers(run) ? 1 : 0;
        }
        System.out.println(wrong == 0 ? "the model agrees" : wrong + " runs differ from the model");
        System.exit(wrong == 0 ? 0 : 1);
    }

    private static boolean runDiffers(int run) {
        Random dice = new Random(run);
        WetWalls real = new WetWalls();
        Model model = new Model();
        Chooser chooser = new Chooser(dice, run % 4);
        for (int k = 0; k < CALLS; k += 2) {
            int[] call = chooser.nextCall(model);
            long got = askReal(real, call);
            long want = askModel(model, call);
            if (got != want || real.digest() != model.digest()) {
                System.out.println("run " + run + ", call " + k + ": " + describe(call) + " answered " + got
                        + ", the model says " + want + "; digests " + real.digest() + ", " + model.digest());
                return true;
            }
        }
        return false;
    }

    private static String describe(int[] call) {
        return "kind " + call[0] + " with " + call[1] + ", " + call[2] + ", " + call[3] + ", " + call[4] + ", " + call[5];
    }

    private static long askReal(WetWalls x, int[] c) {
        switch (c[0]) {
            case 0: return x.layer(c[1], c[2], c[3], c[4]);
            case 1: return x.clear();
            case 2: return x.corner(c[1], c[2], c[3]);
            case 3: return x.water(c[1], c[2]);
            case 4: return x.about(c[1], c[2]);
            case 5: return x.hour(c[1], c[2], c[3], c[4], c[5]);
            case 6: return x.fair();
            case 7: return x.share(c[1]);
            case 8: return x.pass(c[1]);
            case 9: return x.steady(c[1]);
            case 10: return x.sum(c[1]);
            case 11: return x.pressure(c[1], c[2]);
            case 12: return x.warmth(c[1], c[2]);
            case 13: return x.excess(c[1], c[2]);
            case 14: return x.best(c[1]);
            case 15: return x.placed(c[1], c[2]);
            case 16: return x.arrange(c[1]);
            case 17: return x.read(c[1], c[2], c[3], c[4]);
            case 18: return x.forget();
            case 19: return x.fits();
            case 20: return x.count(c[1]);
            default: return x.digest();
        }
    }

    private static long askModel(Model x, int[] c) {
        switch (c[0]) {
            case 0: return x.layer(c[1], c[2], c[3], c[4]);
            case 1: return x.clear();
            case 2: return x.corner(c[1], c[2], c[3]);
            case 3: return x.water(c[1], c[2]);
            case 4: return x.about(c[1], c[2]);
            case 5: return x.hour(c[1], c[2], c[3], c[4], c[5]);
            case 6: return x.fair();
            case 7: return x.share(c[1]);
            case 8: return x.pass(c[1]);
            case 9: return x.steady(c[1]);
            case 10: return x.sum(c[1]);
            case 11: return x.face(c[1], c[2], true);
            case 12: return x.face(c[1], c[2], false);
            case 13: return x.excess(c[1], c[2]);
            case 14: return x.best(c[1]);
            case 15: return x.placed(c[1], c[2]);
            case 16: return x.arrange(c[1]);
            case 17: return x.read(c[1], c[2], c[3], c[4]);
            case 18: return x.forget();
            case 19: return x.fits();
            case 20: return x.count(c[1]);
            default: return x.digest();
        }
    }

    /** Calls that are mostly allowed, with wrong and extreme numbers strewn in. */
    private static final class Chooser {
        private static final int[] EXTREMES = {Integer.MIN_VALUE, Integer.MAX_VALUE, -1, -2, 0, 1, 1000, 1001};
        private final Random dice;
        private final int temper;

        Chooser(Random dice, int temper) {
            this.dice = dice;
            this.temper = temper;
        }

        int[] nextCall(Model model) {
            int[] call = {chooseKind(model), 0, 0, 0, 0, 0};
            fillIn(call, model);
            int wildness = temper == 0 ? 3 : 12;
            if (dice.nextInt(wildness) == 0) {
                call[1 + dice.nextInt(5)] = EXTREMES[dice.nextInt(EXTREMES.length)];
            }
            return call;
        }

        private int chooseKind(Model model) {
            int kind = dice.nextInt(22);
            boolean rare = kind == 1 || kind == 6 || kind == 18;
            if (rare && dice.nextInt(12) != 0) {
                kind = new int[] {0, 5, 8, 17, 2, 3}[dice.nextInt(6)];
            }
            if (temper >= 2 && model.layers.size() < 3 && dice.nextInt(2) == 0) {
                return 0;
            }
            return model.hours.isEmpty() && dice.nextInt(3) == 0 ? 5 : kind;
        }

        private int from(int least, int most) {
            return least + dice.nextInt(most - least + 1);
        }

        private void fillIn(int[] c, Model model) {
            int layer = dice.nextInt(model.layers.size() + 1);
            int hour = dice.nextInt(model.hours.size() + (dice.nextInt(8) == 0 ? 2 : 1));
            int resist = temper == 1 ? 50 : 8;
            switch (c[0]) {
                case 0: put(c, from(1, temper == 3 ? 1000 : 80), from(1, resist), from(1, resist), from(0, 2)); break;
                case 2: fillCorner(c, model); break;
                case 3: put(c, layer, layer < model.layers.size() ? from(0, model.layers.get(layer).room + 1) : 0); break;
                case 4: put(c, layer, from(0, 9)); break;
                case 5: put(c, from(0, 1000), from(-30, 50), from(0, 100), from(0, 1000), from(-30, 50)); break;
                case 7: put(c, from(0, 11)); break;
                case 8: put(c, dice.nextInt(4) == 0 ? from(1, 241) : from(1, 30)); break;
                case 9: put(c, from(1, dice.nextInt(3) == 0 ? 61 : 12)); break;
                case 10: put(c, from(0, 5)); break;
                case 11: case 12: case 13: case 15: put(c, hour, layer); break;
                case 14: case 16: put(c, hour); break;
                case 17: put(c, layer, from(1, dice.nextInt(4) == 0 ? 101 : 9), from(0, 500), from(400, 1000)); break;
                case 20: put(c, from(0, 7)); break;
                default: break;
            }
        }

        private void fillCorner(int[] c, Model model) {
            int curve = from(0, 2);
            int k = from(0, 4);
            int[] row = model.corners[curve];
            int least = k == 0 ? 0 : row[k - 1];
            int most = k == 4 ? 1000 : row[k + 1];
            put(c, curve, k, dice.nextInt(5) == 0 ? from(0, 1000) : from(least, most));
        }

        private static void put(int[] c, int... numbers) {
            System.arraycopy(numbers, 0, c, 1, numbers.length);
        }
    }

    private static final class Layer {
        int room;
        int steam;
        int heat;
        int curve;
        int water;
        int frost;
        int mould;
        int warmth;

        Layer copy() {
            Layer other = new Layer();
            other.room = room;
            other.steam = steam;
            other.heat = heat;
            other.curve = curve;
            other.water = water;
            other.frost = frost;
            other.mould = mould;
            other.warmth = warmth;
            return other;
        }
    }

    private static final class Model {
        final int[][] corners = {{0, 250, 500, 750, 1000}, {0, 250, 500, 750, 1000}, {0, 250, 500, 750, 1000}};
        List<Layer> layers = new ArrayList<>();
        final List<int[]> hours = new ArrayList<>();
        final List<int[]> readings = new ArrayList<>();
        int next = 0;
        int share = 10;
        long[] sums = new long[5];
        int fitsDone = 0;

        static boolean out(int v, int least, int most) {
            return v < least || v > most;
        }

        int layer(int room, int steam, int heat, int curve) {
            if (out(room, 1, 1000) || out(steam, 1, 50) || out(heat, 1, 50) || out(curve, 0, 2)) {
                return -102;
            }
            if (layers.size() == 6) {
                return -104;
            }
            Layer it = new Layer();
            it.room = room;
            it.steam = steam;
            it.heat = heat;
            it.curve = curve;
            layers.add(it);
            return layers.size();
        }

        int clear() {
            int many = layers.size();
            layers.clear();
            readings.clear();
            sums = new long[5];
            return many;
        }

        int corner(int curve, int k, int v) {
            if (out(curve, 0, 2) || out(k, 0, 4)) {
                return -101;
            }
            int[] row = corners[curve];
            if (out(v, 0, 1000) || k > 0 && v < row[k - 1] || k < 4 && v > row[k + 1]) {
                return -102;
            }
            int was = row[k];
            row[k] = v;
            return was;
        }

        int water(int i, int v) {
            if (out(i, 0, layers.size() - 1)) {
                return -101;
            }
            Layer it = layers.get(i);
            if (out(v, 0, it.room)) {
                return -102;
            }
            int was = it.water;
            sums[4] += v - was;
            it.water = v;
            return was;
        }

        int damp(Layer it) {
            int[] row = corners[it.curve];
            int q = 0;
            while ((q + 1) * it.room <= 4 * it.water) {
                q++;
            }
            if (q == 4) {
                return row[4];
            }
            long more = (long) (row[q + 1] - row[q]) * (4 * it.water - q * it.room);
            return row[q] + (int) (more / it.room);
        }

        int about(int i, int what) {
            if (out(i, 0, layers.size() - 1)) {
                return -101;
            }
            if (out(what, 0, 8)) {
                return -102;
            }
            Layer it = layers.get(i);
            return new int[] {it.room, it.steam, it.heat, it.curve, it.water, damp(it), it.frost, it.mould, it.warmth}[what];
        }

        int hour(int dampOut, int warmOut, int rain, int dampIn, int warmIn) {
            if (out(dampOut, 0, 1000) || out(warmOut, -30, 50) || out(rain, 0, 100)
                    || out(dampIn, 0, 1000) || out(warmIn, -30, 50)) {
                return -102;
            }
            if (hours.size() == 24) {
                return -104;
            }
            hours.add(new int[] {dampOut, warmOut, rain, dampIn, warmIn});
            return hours.size();
        }

        int fair() {
            int many = hours.size();
            hours.clear();
            next = 0;
            return many;
        }

        int share(int v) {
            if (out(v, 0, 10)) {
                return -102;
            }
            int was = share;
            share = v;
            return was;
        }

        boolean still() {
            return layers.isEmpty() || hours.isEmpty();
        }

        int pass(int n) {
            if (out(n, 1, 240)) {
                return -102;
            }
            if (still()) {
                return -103;
            }
            for (int k = 0; k < n; k++) {
                goBy();
            }
            return next;
        }

        void goBy() {
            int[] hour = hours.get(next);
            rain(hour[2] * share / 10);
            for (int border = 0; border <= layers.size(); border++) {
                cross(border, hour);
            }
            for (int i = 0; i < layers.size(); i++) {
                judge(i, hour);
            }
            next = (next + 1) % hours.size();
        }

        void rain(int drops) {
            Layer first = layers.get(0);
            for (int k = 0; k < drops; k++) {
                if (first.water < first.room) {
                    first.water++;
                    sums[0]++;
                } else {
                    sums[1]++;
                }
            }
        }

        /** Drop by drop, so that what may not go is seen at each one. */
        void cross(int border, int[] hour) {
            Layer ahead = border == 0 ? null : layers.get(border - 1);
            Layer behind = border == layers.size() ? null : layers.get(border);
            int difference = (ahead == null ? hour[0] : damp(ahead)) - (behind == null ? hour[3] : damp(behind));
            int resist = (ahead == null ? 1 : ahead.steam) + (behind == null ? 1 : behind.steam);
            int drops = Math.abs(difference) / resist;
            Layer giver = difference > 0 ? ahead : behind;
            Layer taker = difference > 0 ? behind : ahead;
            int way = difference > 0 ? 1 : -1;
            for (int k = 0; k < drops; k++) {
                if (giver != null && giver.water == 0 || taker != null && taker.water == taker.room) {
                    return;
                }
                if (giver != null) {
                    giver.water--;
                }
                if (taker != null) {
                    taker.water++;
                }
                sums[2] += ahead == null ? way : 0;
                sums[3] -= behind == null ? way : 0;
            }
        }

        void judge(int i, int[] hour) {
            Layer it = layers.get(i);
            int up = 2 + it.heat;
            int all = 4;
            for (int k = 0; k < layers.size(); k++) {
                up += k < i ? 2 * layers.get(k).heat : 0;
                all += 2 * layers.get(k).heat;
            }
            it.warmth = hour[1] + Math.floorDiv((hour[4] - hour[1]) * up, all);
            if (it.warmth < 0 && 10 * it.water > 9 * it.room) {
                it.frost++;
            }
            boolean grows = damp(it) >= 800 && it.warmth >= 5;
            it.mould = grows ? Math.min(1000, it.mould + 1) : Math.max(0, it.mould - 1);
        }

        List<Integer> waters() {
            List<Integer> all = new ArrayList<>();
            for (Layer it : layers) {
                all.add(it.water);
            }
            return all;
        }

        int steady(int n) {
            if (out(n, 1, 60)) {
                return -102;
            }
            if (still() || next != 0) {
                return -103;
            }
            for (int round = 1; round <= n; round++) {
                List<Integer> before = waters();
                pass(hours.size());
                if (before.equals(waters())) {
                    return round;
                }
            }
            return -1;
        }

        long sum(int what) {
            return out(what, 0, 4) ? -1000000001 : sums[what];
        }

        int refusal(int hour) {
            if (out(hour, 0, hours.size() - 1)) {
                return -101;
            }
            return layers.isEmpty() ? -103 : 0;
        }

        static int saturation(int warmth) {
            return 600 + (warmth < 0 ? 20 : 40) * warmth;
        }

        int face(int hour, int face, boolean steam) {
            if (refusal(hour) != 0) {
                return refusal(hour) - 10000;
            }
            return out(face, 0, layers.size()) ? -10101 : at(layers, hours.get(hour), face, steam);
        }

        static int at(List<Layer> order, int[] hour, int face, boolean steam) {
            int outside = steam ? hour[0] * saturation(hour[1]) / 1000 : hour[1];
            int inside = steam ? hour[3] * saturation(hour[4]) / 1000 : hour[4];
            if (face == 0 || face == order.size()) {
                return face == 0 ? outside : inside;
            }
            int ahead = 1;
            int all = 2;
            for (int k = 0; k < order.size(); k++) {
                int resist = steam ? order.get(k).steam : order.get(k).heat;
                ahead += k < face ? resist : 0;
                all += resist;
            }
            return outside + Math.floorDiv((inside - outside) * ahead, all);
        }

        static int excessAt(List<Layer> order, int[] hour, int face) {
            return Math.max(0, at(order, hour, face, true) - saturation(at(order, hour, face, false)));
        }

        int excess(int hour, int face) {
            if (refusal(hour) != 0) {
                return refusal(hour);
            }
            return out(face, 1, layers.size() - 1) ? -101 : excessAt(layers, hours.get(hour), face);
        }

        int excessOf(List<Integer> order, int[] hour) {
            List<Layer> standing = new ArrayList<>();
            for (int number : order) {
                standing.add(layers.get(number));
            }
            int all = 0;
            for (int face = 1; face < order.size(); face++) {
                all += excessAt(standing, hour, face);
            }
            return all;
        }

        /** Every order, in the order of their numbers; the first of the least ones stays. */
        List<Integer> bestOrder(int[] hour, List<Integer> begun, List<Integer> best) {
            if (begun.size() == layers.size()) {
                boolean better = best.isEmpty() || excessOf(begun, hour) < excessOf(best, hour);
                return better ? new ArrayList<>(begun) : best;
            }
            for (int i = 0; i < layers.size(); i++) {
                if (!begun.contains(i)) {
                    begun.add(i);
                    best = bestOrder(hour, begun, best);
                    begun.remove(begun.size() - 1);
                }
            }
            return best;
        }

        List<Integer> bestOrder(int hour) {
            return bestOrder(hours.get(hour), new ArrayList<>(), new ArrayList<>());
        }

        int best(int hour) {
            return refusal(hour) != 0 ? refusal(hour) : excessOf(bestOrder(hour), hours.get(hour));
        }

        int placed(int hour, int i) {
            if (refusal(hour) != 0) {
                return refusal(hour);
            }
            return out(i, 0, layers.size() - 1) ? -1 : bestOrder(hour).get(i);
        }

        int arrange(int hour) {
            if (refusal(hour) != 0) {
                return refusal(hour);
            }
            List<Integer> order = bestOrder(hour);
            List<Layer> standing = new ArrayList<>();
            int changed = 0;
            for (int i = 0; i < order.size(); i++) {
                standing.add(layers.get(order.get(i)));
                changed += order.get(i) == i ? 0 : 1;
            }
            layers = standing;
            return changed;
        }

        int read(int i, int behind, int a, int b) {
            if (out(i, 0, layers.size() - 1)) {
                return -101;
            }
            if (out(behind, 1, 100) || out(a, 0, 1000) || out(b, 0, 1000) || a > b) {
                return -102;
            }
            if (readings.size() == 12) {
                return -104;
            }
            readings.add(new int[] {i, behind, a, b});
            return readings.size();
        }

        int forget() {
            int many = readings.size();
            readings.clear();
            return many;
        }

        int fits() {
            if (still() || fitsDone == 30) {
                return -103;
            }
            fitsDone++;
            int bits = 0;
            for (int v = 0; v <= 10; v++) {
                boolean all = true;
                for (int[] reading : readings) {
                    all = all && !out(dampLater(v, reading[1], reading[0]), reading[2], reading[3]);
                }
                bits += all ? 1 << v : 0;
            }
            return bits;
        }

        int dampLater(int trialShare, int behind, int layer) {
            Model other = new Model();
            for (int curve = 0; curve < 3; curve++) {
                other.corners[curve] = corners[curve].clone();
            }
            for (Layer it : layers) {
                other.layers.add(it.copy());
            }
            other.hours.addAll(hours);
            other.next = next;
            other.share = trialShare;
            other.pass(behind);
            return other.about(layer, 5);
        }

        long count(int what) {
            int all = 0;
            for (int v : waters()) {
                all += v;
            }
            int[] told = {layers.size(), hours.size(), next, share, readings.size(), all, fitsDone};
            return out(what, 0, 6) ? -102 : told[what];
        }

        long digest() {
            List<Long> numbers = new ArrayList<>();
            for (int[] row : corners) {
                addAll(numbers, row);
            }
            for (int i = 0; i < layers.size(); i++) {
                for (int what = 0; what <= 8; what++) {
                    numbers.add((long) about(i, what));
                }
            }
            for (int[] row : hours) {
                addAll(numbers, row);
            }
            for (long v : sums) {
                numbers.add(v);
            }
            for (int[] row : readings) {
                addAll(numbers, row);
            }
            numbers.add(count(2));
            numbers.add(count(3));
            numbers.add(count(6));
            long h = 181;
            for (long v : numbers) {
                h = h * 31 + v;
            }
            return h;
        }

        private static void addAll(List<Long> numbers, int[] row) {
            for (int v : row) {
                numbers.add((long) v);
            }
        }
    }
}
