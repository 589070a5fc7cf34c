import java.math.BigInteger;
import java.util.ArrayList;
import java.util.Arrays;
import java.util.HashMap;
import java.util.HashSet;
import java.util.List;
import java.util.Map;
import java.util.Set;
import java.util.TreeMap;
import java.util.function.Consumer;
import java.util.function.ToIntFunction;
import java.util.regex.Matcher;
import java.util.regex.Pattern;

/**
 * The document once more, as plainly as it can be told: every day is gone through hour by hour with
 * all tubs, every question is answered by whole days. The class is compared with it call by call.
 */
final class Model {
    static final int BAD = -1, STATE = -2, FULL = -3, NONE = -4;

    record Tub(int kind, int x, int y, int hour, int estate) {
        int part(int what) {
            return new int[] {kind, x, y, hour, estate, windage()}[what];
        }

        int windage() {
            return kind == 0 ? 1 : kind == 1 ? 0 : kind == 2 ? 2 : 3;
        }

        Tub with(int what, int v) {
            int[] p = {kind, x, y, hour, estate};
            p[what] = v;
            return new Tub(p[0], p[1], p[2], p[3], p[4]);
        }

        boolean isFit() {
            return in(kind, 0, 3) && in(x, 0, 9) && in(y, 1, 9) && in(hour, 0, 23) && in(estate, 1, 99);
        }
    }

    record Heir(int place, int from, int until, int hook) {
        int part(int what) {
            return new int[] {place, from, until, hook}[what];
        }

        Heir with(int what, int v) {
            int[] p = {place, from, until, hook};
            p[what] = v;
            return new Heir(p[0], p[1], p[2], p[3]);
        }

        boolean isFit() {
            return in(place, 0, 9) && in(from, 0, 23) && in(until, from, 23) && in(hook, 0, 9);
        }
    }

    /** A tub at the end of an hour. */
    record Fate(int x, int y, int way, int who, int over, int hooked) { }

    static final class World {
        List<Tub> tubs = new ArrayList<>();
        List<Heir> heirs = new ArrayList<>();
        int[] currents = {2, 2, 2, 2, 2, 2, 2, 2, 2, 2};
        int[] winds = new int[24];
        int phase = 0;

        World copy() {
            World other = new World();
            other.tubs.addAll(tubs);
            other.heirs.addAll(heirs);
            other.currents = currents.clone();
            other.winds = winds.clone();
            other.phase = phase;
            return other;
        }

        World with(Consumer<World> change) {
            World other = copy();
            change.accept(other);
            return other;
        }

        World withTub(int t, int what, int v) {
            return with(w -> w.tubs.set(t, w.tubs.get(t).with(what, v)));
        }

        World withHeir(int i, int what, int v) {
            return with(w -> w.heirs.set(i, w.heirs.get(i).with(what, v)));
        }

        /** The fates of all tubs behind 0 to 24 hours. */
        List<List<Fate>> day() {
            List<List<Fate>> hours = new ArrayList<>();
            List<Fate> fates = new ArrayList<>();
            for (Tub tub : tubs) fates.add(new Fate(tub.x, tub.y, 0, NONE, NONE, NONE));
            hours.add(fates);
            for (int hour = 0; hour < 24; hour++) {
                List<Fate> next = new ArrayList<>();
                for (int t = 0; t < tubs.size(); t++) {
                    Fate fate = hours.get(hour).get(t);
                    if (tubs.get(t).hour <= hour && fate.way == 0) fate = drifted(tubs.get(t), fate, hour);
                    if (fate.way == 2) fate = reached(fate, hour);
                    next.add(fate);
                }
                hours.add(next);
            }
            return hours;
        }

        private Fate drifted(Tub tub, Fate fate, int hour) {
            int x = fate.x + currents[fate.y] - 2;
            int y = (hour + phase) / 3 % 2 == 0 ? fate.y + 1 : fate.y - 1;
            if (winds[hour] == 1) y -= tub.windage();
            if (winds[hour] == 2) x += tub.windage();
            if (winds[hour] == 3) y += tub.windage();
            if (winds[hour] == 4) x -= tub.windage();
            if (y <= 0) return new Fate(x < 0 ? 0 : x > 9 ? 9 : x, 0, 2, NONE, hour, NONE);
            if (y > 9 || x < 0 || x > 9) return new Fate(x, y, 3, NONE, hour, NONE);
            return new Fate(x, y, 0, NONE, NONE, NONE);
        }

        private Fate reached(Fate fate, int hour) {
            for (int far = 0; far <= 9; far++) {
                for (int i = 0; i < heirs.size(); i++) {
                    Heir heir = heirs.get(i);
                    if (hour < heir.from || hour > heir.until) continue;
                    if (Math.abs(fate.x - heir.place) != far || far > heir.hook) continue;
                    return new Fate(fate.x, fate.y, 1, i, fate.over, hour);
                }
            }
            return fate;
        }

        List<Fate> atNight() {
            return day().get(24);
        }

        int estates(ToIntFunction<Fate> one) {
            int sum = 0;
            List<Fate> fates = atNight();
            for (int t = 0; t < tubs.size(); t++) sum += one.applyAsInt(fates.get(t)) * tubs.get(t).estate;
            return sum;
        }

        int had(int i) {
            return estates(fate -> fate.who == i ? 1 : 0);
        }

        int hookedOfAll() {
            return estates(fate -> fate.way == 1 ? 1 : 0);
        }

        int bits(ToIntFunction<Fate> one) {
            int bits = 0;
            List<Fate> fates = atNight();
            for (int t = 0; t < tubs.size(); t++) bits |= one.applyAsInt(fates.get(t)) << t;
            return bits;
        }
    }

    /** Told by a text: where its fault is, and which. */
    private static final class Fault extends RuntimeException {
        private static final long serialVersionUID = 1;
        final int place;
        final int sort;

        Fault(int place, int sort) {
            this.place = place;
            this.sort = sort;
        }
    }

    private final StringBuilder tape = new StringBuilder();
    private World now = new World();
    private final World[] images = new World[2];
    private final List<int[]> seen = new ArrayList<>();
    private final int[][] sheets = new int[4][];
    private final int[] lanes = new int[4];
    private int fault = 0;
    private int torn = 0;

    private static boolean in(int v, int least, int most) {
        return least <= v && v <= most;
    }

    private boolean noTub(int t) {
        return !in(t, 0, now.tubs.size() - 1);
    }

    private boolean noHeir(int i) {
        return !in(i, 0, now.heirs.size() - 1);
    }

    int feed(int c) {
        if (!in(c, 0, 127)) return BAD;
        if (tape.length() == 160) return FULL;
        return tape.append((char) c).length();
    }

    int end(int n) {
        int had = tape.length();
        if (!in(n, 0, had)) return BAD;
        tape.setLength(n);
        return had;
    }

    // The text: a pattern for tokens, and what is still to come of a line as a list.

    private static final Pattern TOKEN = Pattern.compile(" *([a-z]+|[0-9]+|;|\\z|.)", Pattern.DOTALL);
    private static final List<String> KINDS = List.of("tub", "bottle", "piano", "coop");

    int text() {
        String all = tape.toString();
        tape.setLength(0);
        fault = 0;
        World told = new World();
        Set<String> things = new HashSet<>();
        Matcher tokens = TOKEN.matcher(all);
        int lines = 0;
        try {
            while (true) {
                String name = token(tokens, all);
                if (name.isEmpty()) break;
                line(name, tokens, all, told, things);
                lines++;
            }
        } catch (Fault met) {
            fault = met.sort;
            return -10 - met.place;
        }
        now = told;
        seen.clear();
        Arrays.fill(images, null);
        return lines;
    }

    private static String token(Matcher tokens, String all) {
        if (!tokens.find()) throw new IllegalStateException("no token in " + all);
        String token = tokens.group(1);
        if (token.matches("[0-9]{3,}") || !token.matches("(?s)[a-z]*|[0-9]*|;")) throw new Fault(tokens.start(1), 1);
        return token;
    }

    private static int number(Matcher tokens, String all, int least, int most) {
        String token = token(tokens, all);
        if (!token.matches("[0-9]+")) throw new Fault(tokens.start(1), 2);
        int v = Integer.parseInt(token);
        if (!in(v, least, most)) throw new Fault(tokens.start(1), 3);
        return v;
    }

    private static void line(String name, Matcher tokens, String all, World told, Set<String> things) {
        int at = tokens.start(1);
        if (KINDS.contains(name)) {
            if (told.tubs.size() == 4) throw new Fault(at, 5);
            told.tubs.add(new Tub(KINDS.indexOf(name), number(tokens, all, 0, 9), number(tokens, all, 1, 9),
                number(tokens, all, 0, 23), number(tokens, all, 1, 99)));
        } else if (name.equals("heir")) {
            if (told.heirs.size() == 4) throw new Fault(at, 5);
            int place = number(tokens, all, 0, 9);
            int from = number(tokens, all, 0, 23);
            told.heirs.add(new Heir(place, from, number(tokens, all, from, 23), number(tokens, all, 0, 9)));
        } else if (name.equals("current")) {
            int row = number(tokens, all, 0, 9);
            if (!things.add("row " + row)) throw new Fault(tokens.start(1), 4);
            told.currents[row] = number(tokens, all, 0, 4);
        } else if (name.equals("wind")) {
            int hour = number(tokens, all, 0, 23);
            if (!things.add("hour " + hour)) throw new Fault(tokens.start(1), 4);
            told.winds[hour] = number(tokens, all, 0, 4);
        } else if (name.equals("phase")) {
            if (!things.add("phase")) throw new Fault(at, 4);
            told.phase = number(tokens, all, 0, 5);
        } else {
            throw new Fault(at, 2);
        }
        if (!token(tokens, all).equals(";")) throw new Fault(tokens.start(1), 2);
    }

    int fault() {
        return fault;
    }

    private int estatesOfAll() {
        return now.tubs.stream().mapToInt(Tub::estate).sum();
    }

    private int windyHours() {
        return (int) Arrays.stream(now.winds).filter(w -> w != 0).count();
    }

    int rule(int what) {
        if (!in(what, 0, 4)) return BAD;
        return new int[] {now.tubs.size(), now.heirs.size(), now.phase, estatesOfAll(), windyHours()}[what];
    }

    int tub(int t, int what) {
        return noTub(t) || !in(what, 0, 5) ? BAD : now.tubs.get(t).part(what);
    }

    int heir(int i, int what) {
        return noHeir(i) || !in(what, 0, 3) ? BAD : now.heirs.get(i).part(what);
    }

    int current(int row) {
        return in(row, 0, 9) ? now.currents[row] : BAD;
    }

    int wind(int hour) {
        return in(hour, 0, 23) ? now.winds[hour] : BAD;
    }

    int alter(int t, int what, int v) {
        if (noTub(t) || !in(what, 0, 4)) return BAD;
        Tub was = now.tubs.get(t);
        if (!was.with(what, v).isFit()) return BAD;
        now.tubs.set(t, was.with(what, v));
        return was.part(what);
    }

    int stand(int i, int what, int v) {
        if (noHeir(i) || !in(what, 0, 3)) return BAD;
        Heir was = now.heirs.get(i);
        if (!was.with(what, v).isFit()) return BAD;
        now.heirs.set(i, was.with(what, v));
        return was.part(what);
    }

    int set(int row, int v) {
        if (!in(row, 0, 9) || !in(v, 0, 4)) return BAD;
        int was = now.currents[row];
        now.currents[row] = v;
        return was;
    }

    int blow(int hour, int v) {
        if (!in(hour, 0, 23) || !in(v, 0, 4)) return BAD;
        int was = now.winds[hour];
        now.winds[hour] = v;
        return was;
    }

    int phase(int v) {
        if (!in(v, 0, 5)) return BAD;
        int was = now.phase;
        now.phase = v;
        return was;
    }

    int cast(int x, int y, int hour) {
        Tub tub = new Tub(0, x, y, hour, 1);
        if (!tub.isFit()) return BAD;
        if (now.tubs.size() == 4) return FULL;
        now.tubs.add(tub);
        return now.tubs.size();
    }

    int sink(int n) {
        int were = now.tubs.size();
        if (!in(n, 0, were)) return BAD;
        now.tubs = new ArrayList<>(now.tubs.subList(0, n));
        return were;
    }

    int fate(int t, int what) {
        if (noTub(t) || !in(what, 0, 3)) return BAD;
        Fate fate = now.atNight().get(t);
        return new int[] {fate.way, fate.who, fate.over, fate.hooked}[what];
    }

    int where(int t, int n, int what) {
        if (noTub(t) || !in(n, 0, 24) || !in(what, 0, 2)) return BAD;
        Fate fate = now.day().get(n).get(t);
        return new int[] {fate.x + 10, fate.y, fate.way}[what];
    }

    int has(int i, int what) {
        if (noHeir(i) || !in(what, 0, 1)) return BAD;
        return what == 0 ? now.had(i) : now.bits(fate -> fate.who == i ? 1 : 0);
    }

    int all(int what) {
        if (!in(what, 0, 4)) return BAD;
        return what == 4 ? now.hookedOfAll() : now.bits(fate -> fate.way == what ? 1 : 0);
    }

    int when(int t, int i) {
        if (noTub(t) || noHeir(i)) return BAD;
        for (int hour = 0; hour <= 23; hour++) {
            if (now.withTub(t, 3, hour).atNight().get(t).who == i) return hour;
        }
        return NONE;
    }

    private World put(int t, int xy) {
        return now.withTub(t, 1, xy / 10).withTub(t, 2, xy % 10);
    }

    int aim(int t, int i) {
        if (noTub(t) || noHeir(i)) return BAD;
        for (int xy = 1; xy <= 99; xy++) {
            if (xy % 10 != 0 && put(t, xy).atNight().get(t).who == i) return xy;
        }
        return NONE;
    }

    int ways(int t, int way) {
        if (noTub(t) || !in(way, 0, 3)) return BAD;
        int ways = 0;
        for (int xy = 1; xy <= 99; xy++) {
            if (xy % 10 != 0 && put(t, xy).atNight().get(t).way == way) ways++;
        }
        return ways;
    }

    private static int bestOf(Map<Integer, Integer> much, int what) {
        int most = much.values().stream().mapToInt(v -> v).max().orElse(NONE);
        for (Map.Entry<Integer, Integer> one : much.entrySet()) {
            if (one.getValue() == most) return what == 0 ? one.getKey() : most;
        }
        return NONE;
    }

    int place(int i, int what) {
        if (noHeir(i) || !in(what, 0, 1)) return BAD;
        Map<Integer, Integer> much = new TreeMap<>();
        for (int a = 0; a <= 9; a++) much.put(a, now.withHeir(i, 0, a).had(i));
        return bestOf(much, what);
    }

    int hook(int i, int v) {
        if (noHeir(i) || !in(v, 1, 400)) return BAD;
        for (int hook = 0; hook <= 9; hook++) {
            if (now.withHeir(i, 3, hook).had(i) >= v) return hook;
        }
        return NONE;
    }

    int fire(int i, int what) {
        if (noHeir(i) || !in(what, 0, 1)) return BAD;
        Map<Integer, Integer> much = new TreeMap<>();
        int asItIs = now.had(i);
        for (int told = 1; told <= 234; told++) {
            int hour = told / 10;
            int wind = told % 10;
            if (!in(wind, 1, 4)) continue;
            int then = now.with(w -> w.winds[hour] = wind).had(i);
            if (then > asItIs) much.put(told, then);
        }
        return bestOf(much, what);
    }

    int moon(int what) {
        if (!in(what, 0, 1)) return BAD;
        Map<Integer, Integer> much = new TreeMap<>();
        for (int p = 0; p <= 5; p++) {
            int phase = p;
            much.put(p, now.with(w -> w.phase = phase).hookedOfAll());
        }
        return bestOf(much, what);
    }

    int rest(int i, int k, int what) {
        if (noHeir(i) || noHeir(k) || i == k || !in(what, 0, 1)) return BAD;
        int[][] first = new int[10][10];
        int[][] second = new int[10][10];
        for (int ab = 0; ab <= 99; ab++) {
            World then = now.withHeir(i, 0, ab / 10).withHeir(k, 0, ab % 10);
            first[ab / 10][ab % 10] = then.had(i);
            second[ab / 10][ab % 10] = then.had(k);
        }
        List<Integer> pairs = new ArrayList<>();
        for (int ab = 0; ab <= 99; ab++) {
            int a = ab / 10;
            int b = ab % 10;
            boolean stays = true;
            for (int other = 0; other <= 9; other++) {
                stays &= first[other][b] <= first[a][b] && second[a][other] <= second[a][b];
            }
            if (stays) pairs.add(ab);
        }
        if (what == 0) return pairs.size();
        return pairs.isEmpty() ? NONE : pairs.get(0);
    }

    private long expected(World world, int hour, int v, ToIntFunction<World> much, int what) {
        BigInteger sum = weighed(world, hour, v, much);
        BigInteger whole = BigInteger.TEN.pow(windyHours());
        BigInteger shared = sum.gcd(whole);
        return (what == 0 ? sum : whole).divide(shared).longValueExact();
    }

    private BigInteger weighed(World world, int hour, int v, ToIntFunction<World> much) {
        if (hour == 24) return BigInteger.valueOf(much.applyAsInt(world));
        if (world.winds[hour] == 0) return weighed(world, hour + 1, v, much);
        BigInteger dropped = weighed(world.with(w -> w.winds[hour] = 0), hour + 1, v, much);
        BigInteger stayed = weighed(world, hour + 1, v, much);
        return dropped.multiply(BigInteger.valueOf(v)).add(stayed.multiply(BigInteger.valueOf(10 - v)));
    }

    long luck(int v, int t, int i, int what) {
        if (!in(v, 0, 10) || noTub(t) || noHeir(i) || !in(what, 0, 1)) return BAD;
        if (windyHours() > 8) return STATE;
        return expected(now, 0, v, w -> w.atNight().get(t).who == i ? 1 : 0, what);
    }

    long mean(int v, int i, int what) {
        if (!in(v, 0, 10) || noHeir(i) || !in(what, 0, 1)) return BAD;
        if (windyHours() > 8) return STATE;
        return expected(now, 0, v, w -> w.had(i), what);
    }

    int see(int t, int n, int east) {
        if (noTub(t) || !in(n, 0, 24) || !in(east, 0, 30)) return BAD;
        if (seen.size() == 6) return FULL;
        seen.add(new int[] {t, n, east});
        return seen.size();
    }

    int forget(int n) {
        int were = seen.size();
        if (!in(n, 0, were)) return BAD;
        seen.subList(n, were).clear();
        return were;
    }

    private boolean asSeen(World world) {
        List<List<Fate>> day = world.day();
        for (int[] one : seen) {
            if (one[0] >= world.tubs.size()) return false;
            if (day.get(one[1]).get(one[0]).x + 10 != one[2]) return false;
        }
        return true;
    }

    int kinds(int t) {
        if (noTub(t)) return BAD;
        int bits = 0;
        for (int kind = 0; kind <= 3; kind++) {
            if (asSeen(now.withTub(t, 0, kind))) bits += 1 << kind;
        }
        return bits;
    }

    int sets(int row) {
        if (!in(row, 0, 9)) return BAD;
        int bits = 0;
        for (int v = 0; v <= 4; v++) {
            int told = v;
            if (asSeen(now.with(w -> w.currents[row] = told))) bits += 1 << v;
        }
        return bits;
    }

    int look(int t, int what) {
        if (noTub(t) || !in(what, 0, 1)) return BAD;
        int bits = kinds(t);
        int best = NONE;
        int fewest = Integer.bitCount(bits);
        for (int n = 0; n <= 24; n++) {
            Map<Integer, Integer> easts = new HashMap<>();
            for (int kind = 0; kind <= 3; kind++) {
                if ((bits & 1 << kind) == 0) continue;
                easts.merge(now.withTub(t, 0, kind).day().get(n).get(t).x, 1, Integer::sum);
            }
            int worst = easts.values().stream().mapToInt(v -> v).max().orElse(0);
            if (worst >= fewest) continue;
            fewest = worst;
            best = n;
        }
        return best == NONE ? NONE : what == 0 ? best : fewest;
    }

    int drift(int seed, int n, int what) {
        if (!in(n, 1, 60) || !in(what, 0, 1)) return BAD;
        if (now.tubs.isEmpty()) return STATE;
        World world = now.copy();
        int sum = 0;
        for (int d = 1; d <= n; d++) {
            seed = seed * 1103515245 + 12345;
            int got = (int) ((seed & 0x7fff0000L) >> 16);
            int t = got % world.tubs.size();
            world = world.withTub(t, 1, (got / 8) % 10).withTub(t, 2, 1 + (got / 128) % 9);
            sum += world.hookedOfAll();
        }
        return what == 0 ? sum : world.bits(fate -> fate.way == 1 ? 1 : 0);
    }

    int keep(int k) {
        if (!in(k, 0, 1)) return BAD;
        int was = images[k] == null ? 0 : 1;
        images[k] = now.copy();
        return was;
    }

    int back(int k) {
        if (!in(k, 0, 1)) return BAD;
        if (images[k] == null) return STATE;
        now = images[k].copy();
        return estatesOfAll();
    }

    int sheet(int k, int lane, int n) {
        if (!in(k, 0, 3) || !in(lane, 0, 2) || n > 40) return BAD;
        if (n < 0) return -14;
        sheets[k] = new int[n];
        lanes[k] = lane;
        return 1;
    }

    int lay(int k, int i, int v) {
        if (!in(k, 0, 3)) return BAD;
        if (sheets[k] == null) return -11;
        if (!in(i, 0, sheets[k].length - 1)) return -12;
        sheets[k][i] = lanes[k] == 0 ? (byte) v : lanes[k] == 1 ? (short) v : v;
        return 1;
    }

    int read(int k, int lane, int f, int n) {
        if (!in(k, 0, 3) || !in(lane, 0, 2) || !in(n, 0, 13)) return BAD;
        List<Tub> before = new ArrayList<>(now.tubs);
        for (int i = 0; i < n; i++) {
            int[] three = new int[3];
            for (int c = 0; c < 3; c++) {
                long cell = (long) f + 3 * i + c;
                int found = sheets[k] == null ? 1 : lanes[k] != lane ? 3
                    : cell < 0 || cell >= sheets[k].length ? 2 : 0;
                if (found != 0) {
                    torn = found;
                    return i;
                }
                three[c] = sheets[k][(int) cell];
            }
            if (cast(three[0], three[1], three[2]) < 0) {
                now.tubs = before;
                return -20 - i;
            }
        }
        torn = 0;
        return n;
    }

    int torn() {
        return torn;
    }

    int count(int what) {
        switch (what) {
            case 0: return seen.size();
            case 1: return (images[0] == null ? 0 : 1) + (images[1] == null ? 0 : 1);
            case 2: return tape.length();
            case 3: return sheets[0] == null ? NONE : sheets[0].length;
            case 4: return now.heirs.stream().mapToInt(Heir::hook).sum();
            case 5: return (int) Arrays.stream(now.currents).filter(c -> c != 2).count();
            default: return BAD;
        }
    }
}
