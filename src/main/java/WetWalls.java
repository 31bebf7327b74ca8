/** Walls of layers from outside to inside, the damp in them, and what weather does to it. */
public final class WetWalls {
    public static final int NONE = -1, UNKNOWN = -101, OUTSIDE = -102, STATE = -103, FULL = -104;

    private static final int MOST_LAYERS = 6;
    private static final int MOST_HOURS = 24;
    private static final int MOST_READINGS = 12;
    private static final int MOST_FITS = 30;
    private static final int MOST_SHARE = 10;
    private static final int MOST_PASSED = 240;
    private static final int MOST_ROUNDS = 60;
    private static final int MOST_BEHIND = 100;
    private static final int MOST_DAMP = 1000;

    private static final int CURVES = 3;
    private static final int CORNERS = 5;
    private static final int[] FIRST_CORNERS = {0, 250, 500, 750, 1000};

    // Sums and warmths may be below 0 themselves, so their refusals lie far off; pressures refuse as warmths do.
    private static final int SUM_OUTSIDE = -1000000001;
    private static final int FACE_UNKNOWN = -10101;
    private static final int FACE_STATE = -10103;

    // The places in an hour's row.
    private static final int DAMP_OUT = 0;
    private static final int WARM_OUT = 1;
    private static final int RAIN = 2;
    private static final int DAMP_IN = 3;
    private static final int WARM_IN = 4;
    private static final int HOUR_NUMBERS = 5;

    // The places in the row of sums.
    private static final int RAINED_IN = 0;
    private static final int RAN_OFF = 1;
    private static final int FROM_OUTSIDE = 2;
    private static final int FROM_INSIDE = 3;
    private static final int BY_HAND = 4;
    private static final int SUMS = 5;

    // The places in a reading's row.
    private static final int READ_LAYER = 0;
    private static final int READ_BEHIND = 1;
    private static final int READ_LEAST = 2;
    private static final int READ_MOST = 3;
    private static final int READING_NUMBERS = 4;

    // What outside and inside have, and have room for: no flow comes near it.
    private static final int BOUNDLESS = 2147483647;

    private static final int LAYER_TELLINGS = 9;
    private static final int COUNTS = 7;

    private final Wall wall = new Wall();
    private final Wall trialWall = new Wall();
    private final OldWay oldWay = new OldWay();
    private final int[][] hours = new int[MOST_HOURS][HOUR_NUMBERS];
    private int hoursHeld = 0;
    private int nextHour = 0;
    private int shareNow = MOST_SHARE;
    private final int[][] readings = new int[MOST_READINGS][READING_NUMBERS];
    private int readingsHeld = 0;
    private int fitsDone = 0;

    public WetWalls() {
    }

    // ---- the wall

    public int layer(int room, int steam, int heat, int curve) {
        if (!within(room, 1, 1000) || !within(steam, 1, 50) || !within(heat, 1, 50)
                || !within(curve, 0, CURVES - 1)) {
            return OUTSIDE;
        }
        if (wall.size >= MOST_LAYERS) {
            return FULL;
        }
        wall.addInside(room, steam, heat, curve);
        return wall.size;
    }

    public int clear() {
        int before = wall.size;
        wall.empty();
        readingsHeld = 0;
        return before;
    }

    public int corner(int curve, int k, int v) {
        if (!within(curve, 0, CURVES - 1) || !within(k, 0, CORNERS - 1)) {
            return UNKNOWN;
        }
        int[] row = wall.corners[curve];
        int least = k == 0 ? 0 : row[k - 1];
        int most = k == CORNERS - 1 ? MOST_DAMP : row[k + 1];
        if (!within(v, least, most)) {
            return OUTSIDE;
        }
        int before = row[k];
        row[k] = v;
        return before;
    }

    public int water(int i, int v) {
        if (!wall.has(i)) {
            return UNKNOWN;
        }
        if (!within(v, 0, wall.room[i])) {
            return OUTSIDE;
        }
        int before = wall.held[i];
        wall.held[i] = v;
        wall.sums[BY_HAND] += v - before;
        return before;
    }

    public int about(int i, int what) {
        if (!wall.has(i)) {
            return UNKNOWN;
        }
        if (!within(what, 0, LAYER_TELLINGS - 1)) {
            return OUTSIDE;
        }
        return wall.tellOf(i, what);
    }

    // ---- weather

    public int hour(int dampOut, int warmOut, int rain, int dampIn, int warmIn) {
        if (!isDamp(dampOut) || !isWarmth(warmOut) || !within(rain, 0, 100)
                || !isDamp(dampIn) || !isWarmth(warmIn)) {
            return OUTSIDE;
        }
        if (hoursHeld >= MOST_HOURS) {
            return FULL;
        }
        int[] row = hours[hoursHeld];
        row[DAMP_OUT] = dampOut;
        row[WARM_OUT] = warmOut;
        row[RAIN] = rain;
        row[DAMP_IN] = dampIn;
        row[WARM_IN] = warmIn;
        hoursHeld++;
        return hoursHeld;
    }

    public int fair() {
        int before = hoursHeld;
        hoursHeld = 0;
        nextHour = 0;
        return before;
    }

    public int share(int v) {
        if (!within(v, 0, MOST_SHARE)) {
            return OUTSIDE;
        }
        int before = shareNow;
        shareNow = v;
        return before;
    }

    public int pass(int n) {
        if (!within(n, 1, MOST_PASSED)) {
            return OUTSIDE;
        }
        if (nothingCanPass()) {
            return STATE;
        }
        for (int k = 0; k < n; k++) {
            wall.letHourPass(hours[nextHour], shareNow);
            nextHour = hourBehind(nextHour);
        }
        return nextHour;
    }

    public int steady(int n) {
        if (!within(n, 1, MOST_ROUNDS)) {
            return OUTSIDE;
        }
        if (nothingCanPass() || nextHour != 0) {
            return STATE;
        }
        for (int round = 1; round <= n; round++) {
            if (roundKeepsWater()) {
                return round;
            }
        }
        return NONE;
    }

    public int sum(int what) {
        return within(what, 0, SUMS - 1) ? wall.sums[what] : SUM_OUTSIDE;
    }

    // ---- the old way

    public int pressure(int hour, int face) {
        int refusal = faceRefusal(hour, face);
        return refusal != 0 ? refusal : oldWay.pressureAt(wall, hours[hour], face);
    }

    public int warmth(int hour, int face) {
        int refusal = faceRefusal(hour, face);
        return refusal != 0 ? refusal : oldWay.warmthAt(wall, hours[hour], face);
    }

    public int excess(int hour, int face) {
        int refusal = hourRefusal(hour);
        if (refusal != 0) {
            return refusal;
        }
        if (!within(face, 1, wall.size - 1)) {
            return UNKNOWN;
        }
        return oldWay.excessBehind(wall, hours[hour], Wall.firstLayers(face));
    }

    public int best(int hour) {
        int refusal = hourRefusal(hour);
        if (refusal != 0) {
            return refusal;
        }
        return oldWay.findBestOrder(wall, hours[hour]);
    }

    public int placed(int hour, int i) {
        int refusal = hourRefusal(hour);
        if (refusal != 0) {
            return refusal;
        }
        if (!wall.has(i)) {
            return NONE;
        }
        oldWay.findBestOrder(wall, hours[hour]);
        return oldWay.order[i];
    }

    public int arrange(int hour) {
        int refusal = hourRefusal(hour);
        if (refusal != 0) {
            return refusal;
        }
        oldWay.findBestOrder(wall, hours[hour]);
        wall.standInOrder(oldWay.order);
        int changed = 0;
        for (int i = 0; i < wall.size; i++) {
            if (oldWay.order[i] != i) {
                changed++;
            }
        }
        return changed;
    }

    // ---- meters

    public int read(int i, int behind, int a, int b) {
        if (!wall.has(i)) {
            return UNKNOWN;
        }
        if (!within(behind, 1, MOST_BEHIND) || !isDamp(a) || !isDamp(b) || a > b) {
            return OUTSIDE;
        }
        if (readingsHeld >= MOST_READINGS) {
            return FULL;
        }
        int[] row = readings[readingsHeld];
        row[READ_LAYER] = i;
        row[READ_BEHIND] = behind;
        row[READ_LEAST] = a;
        row[READ_MOST] = b;
        readingsHeld++;
        return readingsHeld;
    }

    public int forget() {
        int before = readingsHeld;
        readingsHeld = 0;
        return before;
    }

    public int fits() {
        if (nothingCanPass() || fitsDone >= MOST_FITS) {
            return STATE;
        }
        fitsDone++;
        int last = lastHourRead();
        int fitting = 0;
        for (int trial = 0; trial <= MOST_SHARE; trial++) {
            if (readingsHoldWith(trial, last)) {
                fitting |= 1 << trial;
            }
        }
        return fitting;
    }

    // ---- what is told

    public int count(int what) {
        return within(what, 0, COUNTS - 1) ? tellCount(what) : OUTSIDE;
    }

    public long digest() {
        long h = 181;
        for (int curve = 0; curve < CURVES; curve++) {
            h = mixRow(h, wall.corners[curve], CORNERS);
        }
        for (int i = 0; i < wall.size; i++) {
            for (int what = 0; what < LAYER_TELLINGS; what++) {
                h = mix(h, wall.tellOf(i, what));
            }
        }
        for (int i = 0; i < hoursHeld; i++) {
            h = mixRow(h, hours[i], HOUR_NUMBERS);
        }
        h = mixRow(h, wall.sums, SUMS);
        for (int i = 0; i < readingsHeld; i++) {
            h = mixRow(h, readings[i], READING_NUMBERS);
        }
        h = mix(h, nextHour);
        h = mix(h, shareNow);
        return mix(h, fitsDone);
    }

    // ---- helpers

    private static boolean within(int v, int least, int most) {
        return v >= least && v <= most;
    }

    private static boolean isDamp(int v) {
        return within(v, 0, MOST_DAMP);
    }

    private static boolean isWarmth(int v) {
        return within(v, -30, 50);
    }

    /** Rounded down; 0 for a divisor that no wall can have, so that no division fails. */
    private static int partDown(int number, int by) {
        if (by < 1) {
            return 0;
        }
        return number % by < 0 ? number / by - 1 : number / by;
    }

    /** Cut toward 0; 0 for a divisor that no wall can have, so that no division fails. */
    private static int partCut(int number, int by) {
        return by < 1 ? 0 : number / by;
    }

    private static long mix(long h, long number) {
        return 31 * h + number;
    }

    private static long mixRow(long h, int[] row, int length) {
        for (int k = 0; k < length && k < row.length; k++) {
            h = mix(h, row[k]);
        }
        return h;
    }

    private boolean nothingCanPass() {
        return wall.size == 0 || hoursHeld == 0;
    }

    private int hourBehind(int hour) {
        return hour + 1 < hoursHeld ? hour + 1 : 0;
    }

    private boolean roundKeepsWater() {
        trialWall.becomeAs(wall);
        for (int hour = 0; hour < hoursHeld; hour++) {
            wall.letHourPass(hours[hour], shareNow);
        }
        return wall.holdsSameWaterAs(trialWall);
    }

    /** 0, if the old way can be asked about the hour. */
    private int hourRefusal(int hour) {
        if (!within(hour, 0, hoursHeld - 1)) {
            return UNKNOWN;
        }
        return wall.size == 0 ? STATE : 0;
    }

    /** 0, if the hour and the face (outside and inside too) can be asked about. */
    private int faceRefusal(int hour, int face) {
        int refusal = hourRefusal(hour);
        if (refusal == STATE) {
            return FACE_STATE;
        }
        return refusal != 0 || !within(face, 0, wall.size) ? FACE_UNKNOWN : 0;
    }

    private int lastHourRead() {
        int last = 0;
        for (int i = 0; i < readingsHeld; i++) {
            last = Math.max(last, readings[i][READ_BEHIND]);
        }
        return last;
    }

    private boolean readingsHoldWith(int trialShare, int last) {
        trialWall.becomeAs(wall);
        int hour = nextHour;
        for (int behind = 1; behind <= last; behind++) {
            trialWall.moveWater(hours[hour], trialShare);
            hour = hourBehind(hour);
            if (!readingsHoldBehind(behind)) {
                return false;
            }
        }
        return true;
    }

    private boolean readingsHoldBehind(int behind) {
        for (int i = 0; i < readingsHeld; i++) {
            int[] row = readings[i];
            if (row[READ_BEHIND] == behind
                    && !within(trialWall.dampOf(row[READ_LAYER]), row[READ_LEAST], row[READ_MOST])) {
                return false;
            }
        }
        return true;
    }

    private int tellCount(int what) {
        switch (what) {
            case 0: return wall.size;
            case 1: return hoursHeld;
            case 2: return nextHour;
            case 3: return shareNow;
            case 4: return readingsHeld;
            case 5: return wall.allWater();
            default: return fitsDone;
        }
    }

    /** The layers, row by row, with what the hours have left in them. */
    private static final class Wall {
        private final int[][] corners = new int[CURVES][CORNERS];
        private final int[] room = new int[MOST_LAYERS];
        private final int[] steam = new int[MOST_LAYERS];
        private final int[] heat = new int[MOST_LAYERS];
        private final int[] curve = new int[MOST_LAYERS];
        private final int[] held = new int[MOST_LAYERS];
        private final int[] frost = new int[MOST_LAYERS];
        private final int[] mould = new int[MOST_LAYERS];
        private final int[] warm = new int[MOST_LAYERS];
        private final int[] sums = new int[SUMS];
        private final int[] spare = new int[MOST_LAYERS];
        private int size = 0;

        private Wall() {
            for (int k = 0; k < CURVES; k++) {
                System.arraycopy(FIRST_CORNERS, 0, corners[k], 0, CORNERS);
            }
        }

        /** The set, as bits, of so many of the outermost layers. */
        private static int firstLayers(int many) {
            return (1 << many) - 1;
        }

        private boolean has(int i) {
            return i >= 0 && i < size;
        }

        private void addInside(int itsRoom, int itsSteam, int itsHeat, int itsCurve) {
            if (size >= MOST_LAYERS) {
                return;
            }
            room[size] = itsRoom;
            steam[size] = itsSteam;
            heat[size] = itsHeat;
            curve[size] = itsCurve;
            held[size] = 0;
            frost[size] = 0;
            mould[size] = 0;
            warm[size] = 0;
            size++;
        }

        private void empty() {
            size = 0;
            for (int k = 0; k < SUMS; k++) {
                sums[k] = 0;
            }
        }

        /** Takes over all that the ways of water depend on; a trial has no use for the rest. */
        private void becomeAs(Wall other) {
            for (int k = 0; k < CURVES; k++) {
                System.arraycopy(other.corners[k], 0, corners[k], 0, CORNERS);
            }
            copyRow(other.room, room);
            copyRow(other.steam, steam);
            copyRow(other.curve, curve);
            copyRow(other.held, held);
            size = other.size;
        }

        private static void copyRow(int[] from, int[] to) {
            System.arraycopy(from, 0, to, 0, MOST_LAYERS);
        }

        private void standInOrder(int[] order) {
            reorder(room, order);
            reorder(steam, order);
            reorder(heat, order);
            reorder(curve, order);
            reorder(held, order);
            reorder(frost, order);
            reorder(mould, order);
            reorder(warm, order);
        }

        private void reorder(int[] row, int[] order) {
            copyRow(row, spare);
            for (int i = 0; i < size; i++) {
                int from = order[i];
                if (has(from)) {
                    row[i] = spare[from];
                }
            }
        }

        private int tellOf(int i, int what) {
            switch (what) {
                case 0: return room[i];
                case 1: return steam[i];
                case 2: return heat[i];
                case 3: return curve[i];
                case 4: return held[i];
                case 5: return dampOf(i);
                case 6: return frost[i];
                case 7: return mould[i];
                default: return warm[i];
            }
        }

        private int dampOf(int i) {
            int[] row = corners[curve[i]];
            int quarter = partDown(4 * held[i], room[i]);
            if (quarter >= CORNERS - 1) {
                return row[CORNERS - 1];
            }
            int rise = row[quarter + 1] - row[quarter];
            return row[quarter] + partDown(rise * (4 * held[i] - quarter * room[i]), room[i]);
        }

        private int allWater() {
            int all = 0;
            for (int i = 0; i < size; i++) {
                all += held[i];
            }
            return all;
        }

        private boolean holdsSameWaterAs(Wall other) {
            for (int i = 0; i < size; i++) {
                if (held[i] != other.held[i]) {
                    return false;
                }
            }
            return true;
        }

        private void letHourPass(int[] hour, int share) {
            moveWater(hour, share);
            feelWarmth(hour[WARM_OUT], hour[WARM_IN]);
        }

        private void moveWater(int[] hour, int share) {
            takeRain(partDown(hour[RAIN] * share, MOST_SHARE));
            for (int border = 0; border <= size; border++) {
                crossBorder(border, hour);
            }
        }

        private void takeRain(int rain) {
            int taken = Math.min(rain, freeRoom(0));
            held[0] += taken;
            sums[RAINED_IN] += taken;
            sums[RAN_OFF] += rain - taken;
        }

        private void crossBorder(int border, int[] hour) {
            int ahead = border - 1;
            int dampAhead = has(ahead) ? dampOf(ahead) : hour[DAMP_OUT];
            int dampBehind = has(border) ? dampOf(border) : hour[DAMP_IN];
            int flow = partCut(dampAhead - dampBehind, steamResist(ahead) + steamResist(border));
            if (flow > 0) {
                flow = Math.min(flow, Math.min(waterToGive(ahead), freeRoom(border)));
            } else {
                flow = -Math.min(-flow, Math.min(waterToGive(border), freeRoom(ahead)));
            }
            addWater(ahead, -flow);
            addWater(border, flow);
        }

        // Ahead of the first and behind the last layer lie outside and inside, which give and take all.

        private int steamResist(int i) {
            return has(i) ? steam[i] : 1;
        }

        private int waterToGive(int i) {
            return has(i) ? held[i] : BOUNDLESS;
        }

        private int freeRoom(int i) {
            return has(i) ? room[i] - held[i] : BOUNDLESS;
        }

        private void addWater(int i, int amount) {
            if (has(i)) {
                held[i] += amount;
            } else {
                sums[i < 0 ? FROM_OUTSIDE : FROM_INSIDE] -= amount;
            }
        }

        private void feelWarmth(int outside, int inside) {
            int wholeWay = 4 + 2 * resistOf(heat, firstLayers(size));
            int heatAhead = 0;
            for (int i = 0; i < size; i++) {
                int wayToMiddle = 2 + 2 * heatAhead + heat[i];
                warm[i] = outside + partDown((inside - outside) * wayToMiddle, wholeWay);
                countFrost(i);
                countMould(i);
                heatAhead += heat[i];
            }
        }

        private void countFrost(int i) {
            if (warm[i] < 0 && 10 * held[i] > 9 * room[i]) {
                frost[i]++;
            }
        }

        private void countMould(int i) {
            if (dampOf(i) >= 800 && warm[i] >= 5) {
                mould[i] = Math.min(mould[i] + 1, 1000);
            } else {
                mould[i] = Math.max(mould[i] - 1, 0);
            }
        }

        /** The resists in a row (of steam or heat) of all layers in a set, told as bits. */
        private int resistOf(int[] resists, int set) {
            int all = 0;
            for (int i = 0; i < size; i++) {
                if ((set & 1 << i) != 0) {
                    all += resists[i];
                }
            }
            return all;
        }
    }

    /** Steam by the old way, and the order of layers that is best by it. */
    private static final class OldWay {
        // What lies ahead of a seam tells its excess, in whatever order it stands: so a set of layers is enough.
        private final int[] leastBehind = new int[1 << MOST_LAYERS];
        private final int[] order = new int[MOST_LAYERS];

        private static int saturation(int warmth) {
            return warmth < 0 ? 600 + 20 * warmth : 600 + 40 * warmth;
        }

        private static int pressureIn(int damp, int warmth) {
            return partDown(damp * saturation(warmth), 1000);
        }

        private static int between(int outside, int inside, int resistAhead, int resistOfAll) {
            return outside + partDown((inside - outside) * (1 + resistAhead), 2 + resistOfAll);
        }

        private int pressureAt(Wall wall, int[] hour, int face) {
            if (face <= 0) {
                return pressureIn(hour[DAMP_OUT], hour[WARM_OUT]);
            }
            if (face >= wall.size) {
                return pressureIn(hour[DAMP_IN], hour[WARM_IN]);
            }
            return pressureBehind(wall, hour, Wall.firstLayers(face));
        }

        private int warmthAt(Wall wall, int[] hour, int face) {
            if (face <= 0) {
                return hour[WARM_OUT];
            }
            if (face >= wall.size) {
                return hour[WARM_IN];
            }
            return warmthBehind(wall, hour, Wall.firstLayers(face));
        }

        private int pressureBehind(Wall wall, int[] hour, int set) {
            int outside = pressureIn(hour[DAMP_OUT], hour[WARM_OUT]);
            int inside = pressureIn(hour[DAMP_IN], hour[WARM_IN]);
            int all = wall.resistOf(wall.steam, Wall.firstLayers(wall.size));
            return between(outside, inside, wall.resistOf(wall.steam, set), all);
        }

        private int warmthBehind(Wall wall, int[] hour, int set) {
            int all = wall.resistOf(wall.heat, Wall.firstLayers(wall.size));
            return between(hour[WARM_OUT], hour[WARM_IN], wall.resistOf(wall.heat, set), all);
        }

        private int excessBehind(Wall wall, int[] hour, int set) {
            int most = saturation(warmthBehind(wall, hour, set));
            return Math.max(pressureBehind(wall, hour, set) - most, 0);
        }

        /** Leaves the best order in the row of that name, and answers the excess of all its seams. */
        private int findBestOrder(Wall wall, int[] hour) {
            weighSets(wall, hour);
            int set = 0;
            for (int place = 0; place < wall.size; place++) {
                int next = bestBehind(set, wall.size);
                if (next != NONE) {
                    order[place] = next;
                    set |= 1 << next;
                }
            }
            return leastBehind[0];
        }

        /** For each set of layers ahead: the least excess of its own seam and all that come behind. */
        private void weighSets(Wall wall, int[] hour) {
            int all = Wall.firstLayers(wall.size);
            leastBehind[all] = 0;
            for (int set = all - 1; set >= 0; set--) {
                int next = bestBehind(set, wall.size);
                int behind = next == NONE ? 0 : leastBehind[set | 1 << next];
                leastBehind[set] = behind + (set == 0 ? 0 : excessBehind(wall, hour, set));
            }
        }

        /** Of the layers not in the set, the one to stand next; of several the least number. */
        private int bestBehind(int set, int size) {
            int chosen = NONE;
            for (int i = 0; i < size; i++) {
                boolean free = (set & 1 << i) == 0;
                if (free && (chosen == NONE || leastBehind[set | 1 << i] < leastBehind[set | 1 << chosen])) {
                    chosen = i;
                }
            }
            return chosen;
        }
    }
}
