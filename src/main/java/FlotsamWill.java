/**
 * Flotsam wills: what a man leaves drifts in a tub, and it is whoever's it comes to.
 *
 * Nothing here throws: every call tests what it is given before it goes on. No call makes an
 * object; all rows are made with the object and used again.
 */
public final class FlotsamWill {
    public static final int BAD = -1, STATE = -2, FULL = -3, NONE = -4;

    private static final int TUBS = 4, HEIRS = 4, ROWS = 10, HOURS = 24, PLACES = 10;
    private static final int KINDS = 4, CURRENTS = 5, WINDS = 5, PHASES = 6;
    private static final int SEEN = 6, IMAGES = 2, SHEETS = 4, LANES = 3, CELLS = 40, TAPE = 160;

    private static final int KIND = 0, X = 1, Y = 2, HOUR = 3, ESTATE = 4, WINDAGE = 5;
    private static final int TUB_PARTS = 5;
    private static final int[] TUB_LEAST = {0, 0, 1, 0, 1};
    private static final int[] TUB_MOST = {3, 9, 9, 23, 99};

    private static final int PLACE = 0, FROM = 1, UNTIL = 2, HOOK = 3;
    private static final int HEIR_PARTS = 4;
    private static final int[] HEIR_MOST = {9, 23, 23, 9};

    private static final int[] WINDAGES = {1, 0, 2, 3};
    private static final int[] WIND_X = {0, 0, 1, 0, -1};
    private static final int[] WIND_Y = {0, -1, 0, 1, 0};
    private static final int STILL = 2;

    private static final int ADRIFT = 0, HOOKED = 1, ASHORE = 2, LOST = 3;
    private static final int EAST_OF_X = 10, MOST_EAST = 30;
    private static final int MOST_WINDY = 8, ODDS = 10;
    private static final int NULL = 1, INDEX = 2, CAST = 3, SIZE = 4;

    private final Reader reader = new Reader();
    private final Tape tape = reader.tape;
    private final Sea now = new Sea();
    private final Sea trial = new Sea();
    private final Sea[] images = {new Sea(), new Sea()};
    private final boolean[] kept = new boolean[IMAGES];
    private final Sheet[] sheets = {new Sheet(), new Sheet(), new Sheet(), new Sheet()};
    private final Day day = new Day();
    private final int[] seenTub = new int[SEEN];
    private final int[] seenBehind = new int[SEEN];
    private final int[] seenEast = new int[SEEN];
    private final int[] windy = new int[HOURS];
    private final int[] kindEast = new int[KINDS];
    private final int[] mine = new int[PLACES * PLACES];
    private final int[] others = new int[PLACES * PLACES];
    private int seen, tornBy;

    public FlotsamWill() {
    }

    // ---- the text, what there is.

    public int feed(int c) {
        if (!within(c, 0, 127)) return BAD;
        return tape.add(c) ? tape.length : FULL;
    }

    public int end(int n) {
        if (!within(n, 0, tape.length)) return BAD;
        int had = tape.length;
        tape.length = n;
        return had;
    }

    public int text() {
        int lines = reader.readAll();
        tape.length = 0;
        if (reader.fault != 0) return -10 - reader.faultAt;
        now.become(reader.told);
        seen = 0;
        for (int k = 0; k < IMAGES; k++) kept[k] = false;
        return lines;
    }

    public int fault() {
        return reader.fault;
    }

    public int rule(int what) {
        switch (what) {
            case 0: return now.tubs;
            case 1: return now.heirs;
            case 2: return now.phase;
            case 3: return now.estates();
            case 4: return listWindyHours();
            default: return BAD;
        }
    }

    public int tub(int t, int what) {
        if (!now.isTub(t) || !within(what, KIND, WINDAGE)) return BAD;
        return what == WINDAGE ? WINDAGES[now.ofTub(t, KIND)] : now.ofTub(t, what);
    }

    public int heir(int i, int what) {
        if (!now.isHeir(i) || !within(what, PLACE, HOOK)) return BAD;
        return now.ofHeir(i, what);
    }

    public int current(int row) {
        return within(row, 0, ROWS - 1) ? now.currents[row] : BAD;
    }

    public int wind(int hour) {
        return within(hour, 0, HOURS - 1) ? now.winds[hour] : BAD;
    }

    // ---- what is changed.

    public int alter(int t, int what, int v) {
        if (!now.isTub(t) || !fitsTub(what, v)) return BAD;
        int was = now.ofTub(t, what);
        now.putTub(t, what, v);
        return was;
    }

    public int stand(int i, int what, int v) {
        if (!now.isHeir(i) || !fitsHeir(what, v)) return BAD;
        if (what == FROM && v > now.ofHeir(i, UNTIL)) return BAD;
        if (what == UNTIL && v < now.ofHeir(i, FROM)) return BAD;
        int was = now.ofHeir(i, what);
        now.putHeir(i, what, v);
        return was;
    }

    public int set(int row, int v) {
        if (!within(row, 0, ROWS - 1) || !within(v, 0, CURRENTS - 1)) return BAD;
        int was = now.currents[row];
        now.currents[row] = v;
        return was;
    }

    public int blow(int hour, int v) {
        if (!within(hour, 0, HOURS - 1) || !within(v, 0, WINDS - 1)) return BAD;
        int was = now.winds[hour];
        now.winds[hour] = v;
        return was;
    }

    public int phase(int v) {
        if (!within(v, 0, PHASES - 1)) return BAD;
        int was = now.phase;
        now.phase = v;
        return was;
    }

    public int cast(int x, int y, int hour) {
        return putIn(x, y, hour);
    }

    public int sink(int n) {
        if (!within(n, 0, now.tubs)) return BAD;
        int were = now.tubs;
        now.tubs = n;
        return were;
    }

    // ---- the day.

    public int fate(int t, int what) {
        if (!now.isTub(t) || !within(what, 0, 3)) return BAD;
        day.runTub(now, t, HOURS);
        switch (what) {
            case 0: return day.wayOf(t);
            case 1: return day.hooker[t];
            case 2: return day.over[t];
            default: return day.hooked[t];
        }
    }

    public int where(int t, int n, int what) {
        if (!now.isTub(t) || !within(n, 0, HOURS) || !within(what, 0, 2)) return BAD;
        day.runTub(now, t, n);
        switch (what) {
            case 0: return day.eastOf(t);
            case 1: return day.y[t];
            default: return day.wayOf(t);
        }
    }

    public int has(int i, int what) {
        if (!now.isHeir(i) || !within(what, 0, 1)) return BAD;
        day.run(now);
        return what == 0 ? day.estatesOf(now, i) : day.tubsOf(now, i);
    }

    public int all(int what) {
        if (!within(what, 0, 4)) return BAD;
        day.run(now);
        return what == 4 ? day.estatesHooked(now) : day.tubsOfWay(now, what);
    }

    // ---- what is best.

    public int when(int t, int i) {
        if (!now.isTub(t) || !now.isHeir(i)) return BAD;
        trial.become(now);
        for (int hour = 0; hour < HOURS; hour++) {
            trial.putTub(t, HOUR, hour);
            if (day.gives(trial, t, i)) return hour;
        }
        return NONE;
    }

    public int aim(int t, int i) {
        if (!now.isTub(t) || !now.isHeir(i)) return BAD;
        trial.become(now);
        for (int x = TUB_LEAST[X]; x <= TUB_MOST[X]; x++) {
            for (int y = TUB_LEAST[Y]; y <= TUB_MOST[Y]; y++) {
                trial.moveTub(t, x, y);
                if (day.gives(trial, t, i)) return 10 * x + y;
            }
        }
        return NONE;
    }

    public int ways(int t, int way) {
        if (!now.isTub(t) || !within(way, ADRIFT, LOST)) return BAD;
        trial.become(now);
        int places = 0;
        for (int x = TUB_LEAST[X]; x <= TUB_MOST[X]; x++) {
            for (int y = TUB_LEAST[Y]; y <= TUB_MOST[Y]; y++) {
                trial.moveTub(t, x, y);
                day.runTub(trial, t, HOURS);
                if (day.wayOf(t) == way) places++;
            }
        }
        return places;
    }

    public int place(int i, int what) {
        if (!now.isHeir(i) || !within(what, 0, 1)) return BAD;
        trial.become(now);
        day.sail(trial);
        int best = 0;
        int most = -1;
        for (int place = 0; place < PLACES; place++) {
            trial.putHeir(i, PLACE, place);
            day.meet(trial);
            int much = day.estatesOf(trial, i);
            if (much > most) {
                most = much;
                best = place;
            }
        }
        return what == 0 ? best : most;
    }

    public int hook(int i, int v) {
        if (!now.isHeir(i) || !within(v, 1, 400)) return BAD;
        trial.become(now);
        day.sail(trial);
        for (int hook = 0; hook <= HEIR_MOST[HOOK]; hook++) {
            trial.putHeir(i, HOOK, hook);
            day.meet(trial);
            if (day.estatesOf(trial, i) >= v) return hook;
        }
        return NONE;
    }

    public int fire(int i, int what) {
        if (!now.isHeir(i) || !within(what, 0, 1)) return BAD;
        trial.become(now);
        day.run(trial);
        int best = NONE;
        int most = day.estatesOf(trial, i);
        for (int hour = 0; hour < HOURS; hour++) {
            for (int wind = 1; wind < WINDS; wind++) {
                trial.winds[hour] = wind;
                day.run(trial);
                int much = day.estatesOf(trial, i);
                if (much > most) {
                    most = much;
                    best = 10 * hour + wind;
                }
            }
            trial.winds[hour] = now.winds[hour];
        }
        if (best == NONE) return NONE;
        return what == 0 ? best : most;
    }

    public int moon(int what) {
        if (!within(what, 0, 1)) return BAD;
        trial.become(now);
        int best = 0;
        int most = -1;
        for (int phase = 0; phase < PHASES; phase++) {
            trial.phase = phase;
            day.run(trial);
            int much = day.estatesHooked(trial);
            if (much > most) {
                most = much;
                best = phase;
            }
        }
        return what == 0 ? best : most;
    }

    public int rest(int i, int k, int what) {
        if (!now.isHeir(i) || !now.isHeir(k) || i == k || !within(what, 0, 1)) return BAD;
        weighPairs(i, k);
        int pairs = 0;
        int least = NONE;
        for (int a = 0; a < PLACES; a++) {
            for (int b = 0; b < PLACES; b++) {
                if (!neitherWouldGo(a, b)) continue;
                if (pairs == 0) least = 10 * a + b;
                pairs++;
            }
        }
        return what == 0 ? pairs : least;
    }

    // ---- winds that drop.

    public long luck(int v, int t, int i, int what) {
        if (!within(v, 0, ODDS) || !now.isTub(t) || !now.isHeir(i) || !within(what, 0, 1)) return BAD;
        int hours = listWindyHours();
        if (hours > MOST_WINDY) return STATE;
        trial.become(now);
        long sum = 0;
        for (int dropped = 0; dropped < 1 << hours; dropped++) {
            long weight = dropWinds(dropped, hours, v);
            if (weight > 0 && day.gives(trial, t, i)) sum += weight;
        }
        return partOfFraction(sum, allOdds(hours), what);
    }

    public long mean(int v, int i, int what) {
        if (!within(v, 0, ODDS) || !now.isHeir(i) || !within(what, 0, 1)) return BAD;
        int hours = listWindyHours();
        if (hours > MOST_WINDY) return STATE;
        trial.become(now);
        long sum = 0;
        for (int dropped = 0; dropped < 1 << hours; dropped++) {
            long weight = dropWinds(dropped, hours, v);
            if (weight == 0) continue;
            day.run(trial);
            sum += weight * day.estatesOf(trial, i);
        }
        return partOfFraction(sum, allOdds(hours), what);
    }

    // ---- which it was.

    public int see(int t, int n, int east) {
        if (!now.isTub(t) || !within(n, 0, HOURS) || !within(east, 0, MOST_EAST)) return BAD;
        if (seen >= SEEN) return FULL;
        seenTub[seen] = t;
        seenBehind[seen] = n;
        seenEast[seen] = east;
        seen++;
        return seen;
    }

    public int forget(int n) {
        if (!within(n, 0, seen)) return BAD;
        int were = seen;
        seen = n;
        return were;
    }

    public int kinds(int t) {
        return now.isTub(t) ? kindsAsSeen(t) : BAD;
    }

    public int sets(int row) {
        if (!within(row, 0, ROWS - 1)) return BAD;
        trial.become(now);
        int bits = 0;
        for (int v = 0; v < CURRENTS; v++) {
            trial.currents[row] = v;
            if (isAsSeen(trial)) bits |= 1 << v;
        }
        return bits;
    }

    public int look(int t, int what) {
        if (!now.isTub(t) || !within(what, 0, 1)) return BAD;
        int kinds = kindsAsSeen(t);
        int fewest = Integer.bitCount(kinds);
        int best = NONE;
        for (int n = 0; n <= HOURS; n++) {
            int left = leftAtWorst(t, kinds, n);
            if (left < fewest) {
                fewest = left;
                best = n;
            }
        }
        if (best == NONE) return NONE;
        return what == 0 ? best : fewest;
    }

    // ---- by a seed.

    public int drift(int seed, int n, int what) {
        if (!within(n, 1, 60) || !within(what, 0, 1)) return BAD;
        int tubs = now.tubs;
        if (tubs < 1) return STATE;
        trial.become(now);
        day.run(trial);
        int next = seed;
        int sum = 0;
        for (int d = 0; d < n; d++) {
            next = next * 1103515245 + 12345;
            int got = (next >>> 16) & 0x7fff;
            int t = got % tubs;
            trial.moveTub(t, got / 8 % 10, 1 + got / 128 % 9);
            // Tubs do not meet: the days of those that stay where they were stay as they were.
            day.runTub(trial, t, HOURS);
            sum += day.estatesHooked(trial);
        }
        return what == 0 ? sum : day.tubsOfWay(trial, HOOKED);
    }

    // ---- images, sheets.

    public int keep(int k) {
        if (!within(k, 0, IMAGES - 1)) return BAD;
        int was = kept[k] ? 1 : 0;
        images[k].become(now);
        kept[k] = true;
        return was;
    }

    public int back(int k) {
        if (!within(k, 0, IMAGES - 1)) return BAD;
        if (!kept[k]) return STATE;
        now.become(images[k]);
        return now.estates();
    }

    public int sheet(int k, int lane, int n) {
        if (!within(k, 0, SHEETS - 1) || !within(lane, 0, LANES - 1) || n > CELLS) return BAD;
        if (n < 0) return -10 - SIZE;
        sheets[k].renew(lane, n);
        return 1;
    }

    public int lay(int k, int i, int v) {
        if (!within(k, 0, SHEETS - 1)) return BAD;
        Sheet sheet = sheets[k];
        int fault = sheet.faultOf(sheet.lane, i, 1);
        if (fault != 0) return -10 - fault;
        sheet.put(i, v);
        return 1;
    }

    public int read(int k, int lane, int f, int n) {
        if (!within(k, 0, SHEETS - 1) || !within(lane, 0, LANES - 1) || !within(n, 0, 13)) return BAD;
        Sheet sheet = sheets[k];
        int before = now.tubs;
        int came = 0;
        int fault = 0;
        while (came < n) {
            // Cannot wrap around: f is beyond the sheet at once, or at most 39.
            int cell = f + 3 * came;
            fault = sheet.faultOf(lane, cell, 3);
            if (fault != 0) break;
            if (putIn(sheet.cells[cell], sheet.cells[cell + 1], sheet.cells[cell + 2]) < 0) {
                now.tubs = before;
                return -20 - came;
            }
            came++;
        }
        tornBy = fault;
        return came;
    }

    public int torn() {
        return tornBy;
    }

    public int count(int what) {
        switch (what) {
            case 0: return seen;
            case 1: return (kept[0] ? 1 : 0) + (kept[1] ? 1 : 0);
            case 2: return tape.length;
            case 3: return sheets[0].lane == NONE ? NONE : sheets[0].size;
            case 4: return now.hooks();
            case 5: return now.moving();
            default: return BAD;
        }
    }

    // ---- helpers.

    private static boolean within(int v, int least, int most) {
        return v >= least && v <= most;
    }

    private static boolean fitsTub(int what, int v) {
        return within(what, KIND, ESTATE) && within(v, TUB_LEAST[what], TUB_MOST[what]);
    }

    private static boolean fitsHeir(int what, int v) {
        return within(what, PLACE, HOOK) && within(v, 0, HEIR_MOST[what]);
    }

    private int putIn(int x, int y, int hour) {
        if (!fitsTub(X, x) || !fitsTub(Y, y) || !fitsTub(HOUR, hour)) return BAD;
        if (now.tubs >= TUBS) return FULL;
        int t = now.tubs;
        now.tubs++;
        now.putTub(t, KIND, 0);
        now.moveTub(t, x, y);
        now.putTub(t, HOUR, hour);
        now.putTub(t, ESTATE, 1);
        return now.tubs;
    }

    private int listWindyHours() {
        int hours = 0;
        for (int hour = 0; hour < HOURS; hour++) {
            if (now.winds[hour] == 0) continue;
            windy[hours] = hour;
            hours++;
        }
        return hours;
    }

    /** Sets the winds of the trial to one outcome and answers how much that outcome weighs. */
    private long dropWinds(int dropped, int hours, int v) {
        long weight = 1;
        for (int at = 0; at < hours; at++) {
            int hour = windy[at];
            boolean drops = (dropped >> at & 1) == 1;
            trial.winds[hour] = drops ? 0 : now.winds[hour];
            weight *= drops ? v : ODDS - v;
        }
        return weight;
    }

    private static long allOdds(int hours) {
        long all = 1;
        for (int at = 0; at < hours; at++) all *= ODDS;
        return all;
    }

    private static long partOfFraction(long above, long below, int what) {
        long shared = commonDivisor(above, below);
        long part = what == 0 ? above : below;
        return shared > 1 ? part / shared : part;
    }

    /** Euclid's; 100 steps are more than two longs can ask for. */
    private static long commonDivisor(long a, long b) {
        long high = a;
        long low = b;
        for (int step = 0; step < 100 && low != 0; step++) {
            long left = high % low;
            high = low;
            low = left;
        }
        return high;
    }

    /** What heirs i (mine) and k (others) have, by each pair of their places. */
    private void weighPairs(int i, int k) {
        trial.become(now);
        day.sail(trial);
        for (int a = 0; a < PLACES; a++) {
            trial.putHeir(i, PLACE, a);
            for (int b = 0; b < PLACES; b++) {
                trial.putHeir(k, PLACE, b);
                day.meet(trial);
                mine[PLACES * a + b] = day.estatesOf(trial, i);
                others[PLACES * a + b] = day.estatesOf(trial, k);
            }
        }
    }

    private boolean neitherWouldGo(int a, int b) {
        int pair = PLACES * a + b;
        for (int other = 0; other < PLACES; other++) {
            if (mine[PLACES * other + b] > mine[pair]) return false;
            if (others[PLACES * a + other] > others[pair]) return false;
        }
        return true;
    }

    private boolean isAsSeen(Sea sea) {
        for (int s = 0; s < seen; s++) {
            int t = seenTub[s];
            if (!sea.isTub(t)) return false;
            day.sailTub(sea, t, seenBehind[s]);
            if (day.eastOf(t) != seenEast[s]) return false;
        }
        return true;
    }

    private int kindsAsSeen(int t) {
        trial.become(now);
        int bits = 0;
        for (int kind = 0; kind < KINDS; kind++) {
            trial.putTub(t, KIND, kind);
            if (isAsSeen(trial)) bits |= 1 << kind;
        }
        return bits;
    }

    /** How many of the kinds (bits) the commonest EAST behind n hours leaves. */
    private int leftAtWorst(int t, int kinds, int n) {
        trial.become(now);
        for (int kind = 0; kind < KINDS; kind++) {
            trial.putTub(t, KIND, kind);
            day.sailTub(trial, t, n);
            kindEast[kind] = day.eastOf(t);
        }
        int worst = 0;
        for (int kind = 0; kind < KINDS; kind++) {
            int left = 0;
            for (int other = 0; other < KINDS; other++) {
                boolean may = (kinds >> other & 1) == 1;
                if (may && kindEast[other] == kindEast[kind]) left++;
            }
            worst = Math.max(worst, left);
        }
        return worst;
    }

    /** All that a text tells: what an image keeps, and what a trial may change. */
    private static final class Sea {
        private final int[] tubParts = new int[TUBS * TUB_PARTS];
        private final int[] heirParts = new int[HEIRS * HEIR_PARTS];
        private final int[] currents = new int[ROWS];
        private final int[] winds = new int[HOURS];
        private int tubs, heirs, phase;

        private Sea() {
            empty();
        }

        private void empty() {
            tubs = 0;
            heirs = 0;
            phase = 0;
            for (int row = 0; row < ROWS; row++) currents[row] = STILL;
            for (int hour = 0; hour < HOURS; hour++) winds[hour] = 0;
        }

        private void become(Sea other) {
            tubs = other.tubs;
            heirs = other.heirs;
            phase = other.phase;
            System.arraycopy(other.tubParts, 0, tubParts, 0, TUBS * TUB_PARTS);
            System.arraycopy(other.heirParts, 0, heirParts, 0, HEIRS * HEIR_PARTS);
            System.arraycopy(other.currents, 0, currents, 0, ROWS);
            System.arraycopy(other.winds, 0, winds, 0, HOURS);
        }

        private boolean isTub(int t) {
            return t >= 0 && t < tubs;
        }

        private boolean isHeir(int i) {
            return i >= 0 && i < heirs;
        }

        private int ofTub(int t, int what) {
            return tubParts[TUB_PARTS * t + what];
        }

        private void putTub(int t, int what, int v) {
            tubParts[TUB_PARTS * t + what] = v;
        }

        private void moveTub(int t, int x, int y) {
            putTub(t, X, x);
            putTub(t, Y, y);
        }

        private int ofHeir(int i, int what) {
            return heirParts[HEIR_PARTS * i + what];
        }

        private void putHeir(int i, int what, int v) {
            heirParts[HEIR_PARTS * i + what] = v;
        }

        private int estates() {
            int sum = 0;
            for (int t = 0; t < tubs; t++) sum += ofTub(t, ESTATE);
            return sum;
        }

        private int hooks() {
            int sum = 0;
            for (int i = 0; i < heirs; i++) sum += ofHeir(i, HOOK);
            return sum;
        }

        private int moving() {
            int rows = 0;
            for (int row = 0; row < ROWS; row++) {
                if (currents[row] != STILL) rows++;
            }
            return rows;
        }

        private int tideAt(int hour) {
            return (hour + phase) / 3 % 2 == 0 ? 1 : -1;
        }
    }

    /** What becomes of the tubs of a sea in the first hours of a day: first they sail, then heirs meet them. */
    private static final class Day {
        private final int[] x = new int[TUBS];
        private final int[] y = new int[TUBS];
        private final int[] course = new int[TUBS];
        private final int[] over = new int[TUBS];
        private final int[] hooker = new int[TUBS];
        private final int[] hooked = new int[TUBS];

        private void run(Sea sea) {
            for (int t = 0; t < sea.tubs; t++) runTub(sea, t, HOURS);
        }

        private void sail(Sea sea) {
            for (int t = 0; t < sea.tubs; t++) sailTub(sea, t, HOURS);
        }

        private void meet(Sea sea) {
            for (int t = 0; t < sea.tubs; t++) meetTub(sea, t, HOURS);
        }

        private void runTub(Sea sea, int t, int hours) {
            sailTub(sea, t, hours);
            meetTub(sea, t, hours);
        }

        private void sailTub(Sea sea, int t, int hours) {
            x[t] = sea.ofTub(t, X);
            y[t] = sea.ofTub(t, Y);
            course[t] = ADRIFT;
            over[t] = NONE;
            for (int hour = sea.ofTub(t, HOUR); hour < hours && course[t] == ADRIFT; hour++) {
                sailHour(sea, t, hour);
            }
        }

        private void sailHour(Sea sea, int t, int hour) {
            int wind = sea.winds[hour];
            int windage = WINDAGES[sea.ofTub(t, KIND)];
            int toX = x[t] + sea.currents[y[t]] - STILL + WIND_X[wind] * windage;
            int toY = y[t] + sea.tideAt(hour) + WIND_Y[wind] * windage;
            if (toY <= 0) {
                course[t] = ASHORE;
                toX = Math.max(0, Math.min(TUB_MOST[X], toX));
                toY = 0;
            } else if (toY > TUB_MOST[Y] || toX < 0 || toX > TUB_MOST[X]) {
                course[t] = LOST;
            }
            if (course[t] != ADRIFT) over[t] = hour;
            x[t] = toX;
            y[t] = toY;
        }

        /**
         * A tub that lies ashore is hooked in the first hour in which one is there who reaches it.
         * Each heir's own first hour tells that: the earliest has it, then the nearest, then the first.
         */
        private void meetTub(Sea sea, int t, int hours) {
            hooker[t] = NONE;
            hooked[t] = NONE;
            if (course[t] != ASHORE) return;
            int nearest = 0;
            for (int i = 0; i < sea.heirs; i++) {
                int far = Math.abs(x[t] - sea.ofHeir(i, PLACE));
                int hour = Math.max(over[t], sea.ofHeir(i, FROM));
                if (far > sea.ofHeir(i, HOOK) || hour > sea.ofHeir(i, UNTIL) || hour >= hours) continue;
                boolean first = hooker[t] == NONE || hour < hooked[t];
                if (!first && (hour > hooked[t] || far >= nearest)) continue;
                hooker[t] = i;
                hooked[t] = hour;
                nearest = far;
            }
        }

        private boolean gives(Sea sea, int t, int i) {
            runTub(sea, t, HOURS);
            return hooker[t] == i;
        }

        private int wayOf(int t) {
            return hooker[t] == NONE ? course[t] : HOOKED;
        }

        private int eastOf(int t) {
            return x[t] + EAST_OF_X;
        }

        private int estatesOf(Sea sea, int i) {
            int sum = 0;
            for (int t = 0; t < sea.tubs; t++) {
                if (hooker[t] == i) sum += sea.ofTub(t, ESTATE);
            }
            return sum;
        }

        private int tubsOf(Sea sea, int i) {
            int bits = 0;
            for (int t = 0; t < sea.tubs; t++) {
                if (hooker[t] == i) bits |= 1 << t;
            }
            return bits;
        }

        private int estatesHooked(Sea sea) {
            int sum = 0;
            for (int t = 0; t < sea.tubs; t++) {
                if (hooker[t] != NONE) sum += sea.ofTub(t, ESTATE);
            }
            return sum;
        }

        private int tubsOfWay(Sea sea, int way) {
            int bits = 0;
            for (int t = 0; t < sea.tubs; t++) {
                if (wayOf(t) == way) bits |= 1 << t;
            }
            return bits;
        }
    }

    /** A row of bytes, shorts or ints; NONE as its lane: nothing is there. */
    private static final class Sheet {
        private final int[] cells = new int[CELLS];
        private int lane = NONE, size;

        private void renew(int newLane, int n) {
            lane = newLane;
            size = n;
            for (int i = 0; i < CELLS; i++) cells[i] = 0;
        }

        /** What a machine finds that takes this as a row of a lane and looks at n cells from one on. */
        private int faultOf(int asLane, int first, int n) {
            if (lane == NONE) return NULL;
            if (lane != asLane) return CAST;
            return first < 0 || first > size - n ? INDEX : 0;
        }

        private void put(int i, int v) {
            switch (lane) {
                case 0: cells[i] = (byte) v; break;
                case 1: cells[i] = (short) v; break;
                default: cells[i] = v;
            }
        }
    }

    /** The bytes, and the token that was taken of them last. */
    private static final class Tape {
        private static final int END = 0, NAME = 1, NUMBER = 2, SIGN = 3, NOTHING = 4;

        private final int[] bytes = new int[TAPE];
        private int length;
        private int at, token, start, value;

        private boolean add(int c) {
            if (length >= TAPE) return false;
            bytes[length] = c;
            length++;
            return true;
        }

        private void rewind() {
            at = 0;
        }

        private void take() {
            while (at < length && bytes[at] == ' ') at++;
            start = at;
            value = 0;
            token = at < length ? sortOf(bytes[at]) : END;
            if (token == END) return;
            at++;
            boolean goesOn = token == NAME || token == NUMBER;
            while (goesOn && at < length && sortOf(bytes[at]) == token) at++;
            if (token == NUMBER) weighNumber();
        }

        private void weighNumber() {
            if (at - start > 2) {
                token = NOTHING;
                return;
            }
            for (int j = start; j < at; j++) value = 10 * value + bytes[j] - '0';
        }

        private boolean isWord(String word) {
            if (token != NAME || at - start != word.length()) return false;
            for (int j = 0; j < word.length(); j++) {
                if (bytes[start + j] != word.charAt(j)) return false;
            }
            return true;
        }

        private static int sortOf(int c) {
            if (c >= 'a' && c <= 'z') return NAME;
            if (c >= '0' && c <= '9') return NUMBER;
            return c == ';' ? SIGN : NOTHING;
        }
    }

    /** Reads its tape line by line into a sea of its own, until its first fault. */
    private static final class Reader {
        private final Tape tape = new Tape();
        private final Sea told = new Sea();
        private int fault, faultAt;
        private int rowsTold, hoursTold;
        private boolean phaseTold;

        private int readAll() {
            told.empty();
            tape.rewind();
            fault = 0;
            rowsTold = 0;
            hoursTold = 0;
            phaseTold = false;
            int lines = 0;
            // A line has a byte at least, so there are never more than bytes.
            while (lines <= TAPE) {
                tape.take();
                if (tape.token == Tape.END) break;
                readLine();
                if (fault != 0) break;
                lines++;
            }
            return lines;
        }

        private void readLine() {
            if (tape.isWord("tub")) readTub(0);
            else if (tape.isWord("bottle")) readTub(1);
            else if (tape.isWord("piano")) readTub(2);
            else if (tape.isWord("coop")) readTub(3);
            else if (tape.isWord("heir")) readHeir();
            else if (tape.isWord("current")) readCurrent();
            else if (tape.isWord("wind")) readWind();
            else if (tape.isWord("phase")) readPhase();
            else failToken();
            if (fault != 0) return;
            tape.take();
            if (tape.token != Tape.SIGN) failToken();
        }

        private void readTub(int kind) {
            int t = told.tubs;
            if (t >= TUBS) {
                fail(5);
                return;
            }
            told.tubs++;
            told.putTub(t, KIND, kind);
            for (int what = X; what <= ESTATE; what++) {
                told.putTub(t, what, readNumber(TUB_LEAST[what], TUB_MOST[what]));
            }
        }

        private void readHeir() {
            int i = told.heirs;
            if (i >= HEIRS) {
                fail(5);
                return;
            }
            told.heirs++;
            for (int what = PLACE; what <= HOOK; what++) {
                int least = what == UNTIL ? told.ofHeir(i, FROM) : 0;
                told.putHeir(i, what, readNumber(least, HEIR_MOST[what]));
            }
        }

        private void readCurrent() {
            int row = readNumber(0, ROWS - 1);
            if (fault == 0 && (rowsTold >> row & 1) == 1) fail(4);
            int v = readNumber(0, CURRENTS - 1);
            if (fault != 0) return;
            rowsTold |= 1 << row;
            told.currents[row] = v;
        }

        private void readWind() {
            int hour = readNumber(0, HOURS - 1);
            if (fault == 0 && (hoursTold >> hour & 1) == 1) fail(4);
            int v = readNumber(0, WINDS - 1);
            if (fault != 0) return;
            hoursTold |= 1 << hour;
            told.winds[hour] = v;
        }

        private void readPhase() {
            if (phaseTold) {
                fail(4);
                return;
            }
            phaseTold = true;
            told.phase = readNumber(0, PHASES - 1);
        }

        /** The next number; behind a fault nothing more is read, and the answer is not used. */
        private int readNumber(int least, int most) {
            if (fault != 0) return least;
            tape.take();
            if (tape.token != Tape.NUMBER) failToken();
            else if (!within(tape.value, least, most)) fail(3);
            return fault == 0 ? tape.value : least;
        }

        private void failToken() {
            fail(tape.token == Tape.NOTHING ? 1 : 2);
        }

        private void fail(int by) {
            fault = by;
            faultAt = tape.start;
        }
    }
}
