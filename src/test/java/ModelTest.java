import java.math.BigInteger;
import java.util.ArrayList;
import java.util.HashSet;
import java.util.List;
import java.util.Random;
import java.util.Set;

/**
 * Long mixed runs of calls on FlipHeaps beside a model that takes the document by its words,
 * in the slowest and plainest way. The seeds are fixed, so that every run is the same.
 */
public final class ModelTest {
    private static final int RUNS = 150;
    private static final int CALLS = 512;
    private static int wrong = 0;

    public static void main(String[] args) {
        for (int seed = 0; seed < RUNS && wrong < 20; seed++) {
            new Run(seed).go();
        }
        System.out.println(wrong == 0 ? "ModelTest: all answers are the model's" : "ModelTest: " + wrong + " answers are not");
        if (wrong != 0) {
            System.exit(1);
        }
    }

    /** One object beside one model, with the same calls for both. */
    private static final class Run {
        private final int seed;
        private final Random random;
        private final FlipHeaps real = new FlipHeaps();
        private final Model model = new Model();
        private int calls = 0;

        Run(int seed) {
            this.seed = seed;
            this.random = new Random(seed);
        }

        void go() {
            // A step makes three calls at most, and nothing is promised beyond the last.
            for (int step = 0; calls <= CALLS - 3 && step < 2 * CALLS && wrong < 20; step++) {
                // A new order now and then, and enough lays behind it to make it worth turning.
                if (step % 128 == 0) {
                    one(0);
                }
                one(step % 128 < 24 ? random.nextInt(6) : random.nextInt(25));
            }
        }

        private int near(int low, int high) {
            int pick = random.nextInt(24);
            if (pick == 0) {
                return low - 1;
            }
            if (pick == 1) {
                return high + 1;
            }
            if (pick == 2) {
                return random.nextInt();
            }
            return low + random.nextInt(high - low + 1);
        }

        private int thing() {
            return near(0, model.n - 1);
        }

        private int set() {
            if (random.nextInt(8) == 0) {
                return near(0, (1 << model.n) - 1);
            }
            List<Integer> heaps = model.heaps();
            return heaps.get(random.nextInt(heaps.size()));
        }

        private int filling(int h) {
            int all = 1;
            for (int k = 0; k < model.n; k++) {
                all *= Math.max(1, Math.min(h, 3)) + 1;
            }
            if (h < 1 || h > 3 || random.nextInt(8) == 0) {
                return near(0, all - 1);
            }
            for (int tries = 0; tries < 2000; tries++) {
                int filling = random.nextInt(all);
                if (model.isFilling(h, filling)) {
                    return filling;
                }
            }
            return 0;
        }

        private void due(String call, long got, long want) {
            calls++;
            if (got != want) {
                wrong++;
                System.out.println("seed " + seed + ": " + call + " answered " + got + ", due is " + want);
            }
        }

        private void one(int which) {
            int a;
            int b;
            int c;
            int d;
            switch (which) {
                case 0:
                    // Resetting all the time would leave no order to look at.
                    a = random.nextInt(3) == 0 || model.laid == 0 ? near(1, 8) : 9;
                    due("things(" + a + ")", real.things(a), model.things(a));
                    return;
                case 1:
                case 2:
                    a = thing();
                    b = thing();
                    if (random.nextInt(4) != 0 && a > b) {
                        int swap = a;
                        a = b;
                        b = swap;
                    }
                    due("lay(" + a + ", " + b + ")", real.lay(a, b), model.lay(a, b));
                    return;
                case 3:
                    a = thing();
                    b = near(-9, 9);
                    due("weight(" + a + ", " + b + ")", real.weight(a, b), model.weight(a, b));
                    return;
                case 4:
                    a = thing();
                    due("say(" + a + ")", real.say(a), model.say(a));
                    return;
                case 5:
                    a = thing();
                    b = thing();
                    due("below(" + a + ", " + b + ")", real.below(a, b), model.below(a, b));
                    return;
                case 6:
                    if (random.nextInt(6) == 0) {
                        due("hush()", real.hush(), model.hush());
                    }
                    return;
                case 7:
                    a = near(0, (1 << model.n) - 1);
                    due("heap(" + a + ")", real.heap(a), model.heap(a));
                    return;
                case 8:
                    due("many()", real.many(), model.heaps().size());
                    return;
                case 9:
                    a = set();
                    b = thing();
                    due("flip(" + a + ", " + b + ")", real.flip(a, b), model.flip(a, b));
                    return;
                case 10:
                    a = set();
                    b = near(0, 1);
                    c = random.nextBoolean() ? near(0, 3) : near(0, 1000);
                    due("turn(" + a + ", " + b + ", " + c + ")", real.turn(a, b, c), model.turn(a, b, c));
                    return;
                case 11:
                    a = set();
                    b = near(0, 1);
                    due("orbit(" + a + ", " + b + ")", real.orbit(a, b), model.orbit(a, b));
                    return;
                case 12:
                    a = near(0, 1);
                    b = near(0, 2);
                    due("orbits(" + a + ", " + b + ")", real.orbits(a, b), model.orbits(a, b));
                    return;
                case 13:
                case 14:
                    a = near(0, 2);
                    b = set();
                    due("measure(" + a + ", " + b + ")", real.measure(a, b), model.measure(a, b));
                    due("trace()", real.trace(), model.trace);
                    return;
                case 15:
                    a = set();
                    b = near(0, 1);
                    c = near(0, 2);
                    d = near(0, 1);
                    due("mean(" + a + ", " + b + ", " + c + ", " + d + ")", real.mean(a, b, c, d), model.mean(a, b, c, d));
                    return;
                case 16:
                    a = near(0, 1);
                    b = near(0, 2);
                    due("even(" + a + ", " + b + ")", real.even(a, b), model.even(a, b));
                    return;
                case 17:
                    a = near(1, 3);
                    due("fillings(" + a + ")", real.fillings(a), model.fillings(a));
                    return;
                case 18:
                    a = near(1, 3);
                    b = filling(a);
                    c = thing();
                    due("bend(" + a + ", " + b + ", " + c + ")", real.bend(a, b, c), model.bend(a, b, c));
                    return;
                case 19:
                    a = near(1, 3);
                    b = filling(a);
                    c = near(0, 1);
                    due("round(" + a + ", " + b + ", " + c + ")", real.round(a, b, c), model.round(a, b, c));
                    return;
                case 20:
                    a = near(1, 3);
                    b = filling(a);
                    c = near(0, 1);
                    due("period(" + a + ", " + b + ", " + c + ")", real.period(a, b, c), model.period(a, b, c));
                    return;
                case 21:
                    a = near(0, model.n);
                    due("counts(" + a + ")", real.counts(a), model.counts(a));
                    return;
                case 22:
                    a = near(1, 6);
                    due("at(" + a + ")", real.at(a), model.at(a));
                    return;
                case 23:
                    a = near(0, 1);
                    b = random.nextBoolean() ? near(0, 12) : near(0, 1000);
                    due("stays(" + a + ", " + b + ")", real.stays(a, b), model.stays(a, b));
                    return;
                default:
                    a = near(0, 2);
                    due("count(" + a + ")", real.count(a), model.count(a));
                    due("trace()", real.trace(), model.trace);
                    return;
            }
        }
    }

    /** The document's words, without any cleverness. */
    private static final class Model {
        int n = 3;
        int laid = 0;
        long trace = 0;
        boolean[][] below = new boolean[8][8];
        int[] weight = new int[8];
        List<Integer> chain = new ArrayList<>();

        boolean isThing(int thing) {
            return thing >= 0 && thing < n;
        }

        int things(int count) {
            if (count < 1 || count > 8) {
                return -1;
            }
            int was = n;
            n = count;
            laid = 0;
            below = new boolean[8][8];
            weight = new int[8];
            chain = new ArrayList<>();
            return was;
        }

        int lay(int i, int k) {
            if (!isThing(i) || !isThing(k) || i >= k) {
                return -1;
            }
            if (below[i][k]) {
                return 0;
            }
            laid++;
            below[i][k] = true;
            for (int middle = 0; middle < n; middle++) {
                for (int a = 0; a < n; a++) {
                    for (int b = 0; b < n; b++) {
                        below[a][b] |= below[a][middle] && below[middle][b];
                    }
                }
            }
            return 1;
        }

        int below(int i, int k) {
            return isThing(i) && isThing(k) ? below[i][k] ? 1 : 0 : -1;
        }

        int weight(int thing, int v) {
            if (!isThing(thing) || v < -9 || v > 9) {
                return -1000000;
            }
            int was = weight[thing];
            weight[thing] = v;
            return was;
        }

        int say(int thing) {
            if (!isThing(thing)) {
                return -1;
            }
            if (chain.size() == 16) {
                return -3;
            }
            chain.add(thing);
            return chain.size();
        }

        int hush() {
            int was = chain.size();
            chain.clear();
            return was;
        }

        boolean in(int set, int thing) {
            return (set & (1 << thing)) != 0;
        }

        boolean isHeap(int set) {
            if (set < 0 || set > (1 << n) - 1) {
                return false;
            }
            for (int i = 0; i < n; i++) {
                for (int k = 0; k < n; k++) {
                    if (below[i][k] && in(set, k) && !in(set, i)) {
                        return false;
                    }
                }
            }
            return true;
        }

        int heap(int set) {
            return set < 0 || set > (1 << n) - 1 ? -1 : isHeap(set) ? 1 : 0;
        }

        List<Integer> heaps() {
            List<Integer> all = new ArrayList<>();
            for (int set = 0; set < 1 << n; set++) {
                if (isHeap(set)) {
                    all.add(set);
                }
            }
            return all;
        }

        int flip(int set, int thing) {
            if (!isHeap(set) || !isThing(thing)) {
                return -1;
            }
            int other = in(set, thing) ? set - (1 << thing) : set + (1 << thing);
            return isHeap(other) ? other : set;
        }

        int turnOnce(int set, int kind) {
            if (kind == 1) {
                for (int thing : chain) {
                    set = flip(set, thing);
                }
                return set;
            }
            Set<Integer> made = new HashSet<>();
            for (int k = 0; k < n; k++) {
                boolean least = !in(set, k);
                for (int i = 0; i < n; i++) {
                    least &= !below[i][k] || in(set, i);
                }
                if (least) {
                    made.add(k);
                    for (int i = 0; i < n; i++) {
                        if (below[i][k]) {
                            made.add(i);
                        }
                    }
                }
            }
            int sum = 0;
            for (int k : made) {
                sum += 1 << k;
            }
            return sum;
        }

        boolean isKind(int kind) {
            return kind == 0 || kind == 1;
        }

        int turn(int set, int kind, int turns) {
            if (!isHeap(set) || !isKind(kind) || turns < 0 || turns > 1000) {
                return -1;
            }
            for (int i = 0; i < turns; i++) {
                set = turnOnce(set, kind);
            }
            return set;
        }

        List<Integer> orbitOf(int set, int kind) {
            List<Integer> all = new ArrayList<>();
            int heap = set;
            do {
                all.add(heap);
                heap = turnOnce(heap, kind);
            } while (heap != set);
            return all;
        }

        int orbit(int set, int kind) {
            return isHeap(set) && isKind(kind) ? orbitOf(set, kind).size() : -1;
        }

        int orbits(int kind, int what) {
            if (!isKind(kind) || what < 0 || what > 2) {
                return -1;
            }
            Set<Set<Integer>> unlike = new HashSet<>();
            BigInteger order = BigInteger.ONE;
            int longest = 0;
            for (int heap : heaps()) {
                List<Integer> orbit = orbitOf(heap, kind);
                unlike.add(new HashSet<>(orbit));
                BigInteger length = BigInteger.valueOf(orbit.size());
                order = order.multiply(length).divide(order.gcd(length));
                longest = Math.max(longest, orbit.size());
            }
            if (what == 1) {
                return order.compareTo(BigInteger.valueOf(1000000000)) > 0 ? -9 : order.intValueExact();
            }
            return what == 0 ? unlike.size() : longest;
        }

        int value(int kind, int set) {
            int sum = 0;
            for (int k = 0; k < n; k++) {
                if (in(set, k)) {
                    boolean edge = true;
                    for (int m = 0; m < n; m++) {
                        edge &= !(in(set, m) && below[k][m]);
                    }
                    sum += 1 + (kind >= 1 ? weight[k] : 0) + (kind >= 2 && edge ? 1 : 0);
                }
            }
            return sum;
        }

        boolean isMeasure(int kind) {
            return kind >= 0 && kind <= 2;
        }

        int measure(int kind, int set) {
            if (!isMeasure(kind) || !isHeap(set)) {
                return -1000000;
            }
            trace += kind == 0 ? 1 : kind == 1 ? 11 : 111;
            return value(kind, set);
        }

        String meanOf(int set, int turns, int measures) {
            List<Integer> orbit = orbitOf(set, turns);
            int sum = 0;
            for (int heap : orbit) {
                sum += value(measures, heap);
            }
            int shared = BigInteger.valueOf(sum).gcd(BigInteger.valueOf(orbit.size())).intValueExact();
            return sum / shared + " " + orbit.size() / shared;
        }

        int mean(int set, int turns, int measures, int part) {
            if (!isHeap(set) || !isKind(turns) || !isMeasure(measures) || part < 0 || part > 1) {
                return -1000000;
            }
            return Integer.parseInt(meanOf(set, turns, measures).split(" ")[part]);
        }

        int even(int turns, int measures) {
            if (!isKind(turns) || !isMeasure(measures)) {
                return -1;
            }
            Set<String> means = new HashSet<>();
            for (int heap : heaps()) {
                means.add(meanOf(heap, turns, measures));
            }
            return means.size() == 1 ? 1 : 0;
        }

        int power(int h, int k) {
            return k == 0 ? 1 : (h + 1) * power(h, k - 1);
        }

        int digit(int h, int filling, int k) {
            return filling / power(h, k) % (h + 1);
        }

        boolean isFilling(int h, int filling) {
            if (h < 1 || h > 3 || filling < 0 || filling >= power(h, n)) {
                return false;
            }
            for (int i = 0; i < n; i++) {
                for (int k = 0; k < n; k++) {
                    if (below[i][k] && digit(h, filling, i) < digit(h, filling, k)) {
                        return false;
                    }
                }
            }
            return true;
        }

        int fillings(int h) {
            if (h < 1 || h > 3) {
                return -1;
            }
            int found = 0;
            for (int filling = 0; filling < power(h, n); filling++) {
                found += isFilling(h, filling) ? 1 : 0;
            }
            return found;
        }

        int bend(int h, int filling, int thing) {
            if (!isFilling(h, filling) || !isThing(thing)) {
                return -1;
            }
            int a = h;
            int b = 0;
            for (int k = 0; k < n; k++) {
                if (below[k][thing]) {
                    a = Math.min(a, digit(h, filling, k));
                }
                if (below[thing][k]) {
                    b = Math.max(b, digit(h, filling, k));
                }
            }
            int own = digit(h, filling, thing);
            return filling + (a + b - own - own) * power(h, thing);
        }

        int round(int h, int filling, int kind) {
            if (!isFilling(h, filling) || !isKind(kind)) {
                return -1;
            }
            if (kind == 1) {
                for (int thing : chain) {
                    filling = bend(h, filling, thing);
                }
                return filling;
            }
            for (int thing = n - 1; thing >= 0; thing--) {
                filling = bend(h, filling, thing);
            }
            return filling;
        }

        int period(int h, int filling, int kind) {
            if (!isFilling(h, filling) || !isKind(kind)) {
                return -1;
            }
            int now = filling;
            for (int turns = 1; turns <= 1000; turns++) {
                now = round(h, now, kind);
                if (now == filling) {
                    return turns;
                }
            }
            return -9;
        }

        int counts(int k) {
            if (k < 0 || k > n) {
                return -1;
            }
            int found = 0;
            for (int heap : heaps()) {
                found += Integer.bitCount(heap) == k ? 1 : 0;
            }
            return found;
        }

        int at(int d) {
            if (d != 1 && d != 2 && d != 3 && d != 4 && d != 6) {
                return -1000001;
            }
            Set<Long> values = new HashSet<>();
            for (int power = 1; power <= d; power++) {
                if (BigInteger.valueOf(power).gcd(BigInteger.valueOf(d)).intValueExact() != 1) {
                    continue;
                }
                double real = 0;
                double imaginary = 0;
                for (int k = 0; k <= n; k++) {
                    double angle = 2 * Math.PI * power * k / d;
                    real += counts(k) * Math.cos(angle);
                    imaginary += counts(k) * Math.sin(angle);
                }
                if (Math.abs(imaginary) > 1e-6 || Math.abs(real - Math.rint(real)) > 1e-6) {
                    return -1000000;
                }
                values.add(Math.round(real));
            }
            return values.size() == 1 ? values.iterator().next().intValue() : -1000000;
        }

        int stays(int kind, int j) {
            if (!isKind(kind) || j < 0 || j > 1000) {
                return -1;
            }
            int found = 0;
            for (int heap : heaps()) {
                found += turn(heap, kind, j) == heap ? 1 : 0;
            }
            return found;
        }

        int count(int what) {
            int pairs = 0;
            for (boolean[] row : below) {
                for (boolean one : row) {
                    pairs += one ? 1 : 0;
                }
            }
            return what == 0 ? n : what == 1 ? chain.size() : what == 2 ? pairs : -1;
        }
    }
}
