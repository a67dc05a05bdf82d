/**
 * Heaps (down-sets) and fillings of a small order, moved by flips.
 * Sets of things are held as bits, so that "all that are below" is one mask.
 */
public final class FlipHeaps {
    public static final int BAD = -1, STATE = -2, FULL = -3, NONE = -9;
    public static final int NO = -1000000;

    private static final int FIRST_THINGS = 3;
    private static final int MOST_THINGS = 8;
    private static final int MOST_SETS = 256;
    private static final int MOST_CHAIN = 16;
    private static final int MOST_WEIGHT = 9;
    private static final int MOST_TURNS = 1000;
    private static final int MOST_ORDER = 1000000000;
    private static final int MOST_HEIGHT = 3;
    // Euclid's steps on two ints never come near this.
    private static final int MOST_DIVISIONS = 100;

    private static final int ROUND = 0, CHAIN = 1;
    private static final int SIZE = 0, WEIGHED = 1, EDGED = 2;
    private static final int SIZE_TRACE = 1, WEIGHED_TRACE = 10, EDGED_TRACE = 100;

    private int thingCount;
    private int chainLength;
    private long traced;

    // Both masks are kept closed (below what is below is below), so that a flip looks at one mask.
    private final int[] under;
    private final int[] over;
    private final int[] weights;
    private final int[] chain;

    // Rows that calls work in; what they hold between two calls does not matter.
    private final int[] digits;
    private final int[] sizes;
    private final int[] ways;
    private final int[] starts;
    private final int[] lengths;
    private final boolean[] seen;

    public FlipHeaps() {
        thingCount = FIRST_THINGS;
        under = new int[MOST_THINGS];
        over = new int[MOST_THINGS];
        weights = new int[MOST_THINGS];
        chain = new int[MOST_CHAIN];
        digits = new int[MOST_THINGS];
        sizes = new int[MOST_THINGS + 1];
        ways = new int[MOST_SETS];
        starts = new int[MOST_SETS];
        lengths = new int[MOST_SETS];
        seen = new boolean[MOST_SETS];
    }

    // ---- things

    public int things(int n) {
        if (n < 1 || n > MOST_THINGS) {
            return BAD;
        }
        int before = thingCount;
        for (int thing = 0; thing < MOST_THINGS; thing++) {
            under[thing] = 0;
            over[thing] = 0;
            weights[thing] = 0;
        }
        thingCount = n;
        chainLength = 0;
        return before;
    }

    public int lay(int i, int k) {
        if (!isThing(i) || !isThing(k) || i >= k) {
            return BAD;
        }
        if (has(under[k], i)) {
            return 0;
        }
        // All up to i come below all from k on, which keeps the masks closed.
        int lower = under[i] | 1 << i;
        int upper = over[k] | 1 << k;
        for (int thing = 0; thing < thingCount; thing++) {
            if (has(lower, thing)) {
                over[thing] |= upper;
            }
            if (has(upper, thing)) {
                under[thing] |= lower;
            }
        }
        return 1;
    }

    public int below(int i, int k) {
        if (!isThing(i) || !isThing(k)) {
            return BAD;
        }
        return has(under[k], i) ? 1 : 0;
    }

    public int weight(int thing, int v) {
        if (!isThing(thing) || v < -MOST_WEIGHT || v > MOST_WEIGHT) {
            return NO;
        }
        int before = weights[thing];
        weights[thing] = v;
        return before;
    }

    public int say(int thing) {
        if (!isThing(thing)) {
            return BAD;
        }
        if (chainLength >= MOST_CHAIN) {
            return FULL;
        }
        chain[chainLength] = thing;
        chainLength++;
        return chainLength;
    }

    public int hush() {
        int before = chainLength;
        chainLength = 0;
        return before;
    }

    // ---- heaps

    public int heap(int set) {
        if (!isSet(set)) {
            return BAD;
        }
        return isHeap(set) ? 1 : 0;
    }

    public int many() {
        int found = 0;
        for (int set = 0; set < setCount(); set++) {
            if (isHeap(set)) {
                found++;
            }
        }
        return found;
    }

    public int flip(int set, int thing) {
        if (!isHeap(set) || !isThing(thing)) {
            return BAD;
        }
        return flipped(set, thing);
    }

    public int turn(int set, int kind, int n) {
        if (!isHeap(set) || !isTurnKind(kind) || !isTurnNumber(n)) {
            return BAD;
        }
        int heap = set;
        for (int done = 0; done < n; done++) {
            heap = turned(heap, kind);
        }
        return heap;
    }

    public int orbit(int set, int kind) {
        if (!isHeap(set) || !isTurnKind(kind)) {
            return BAD;
        }
        return walkOrbit(set, kind);
    }

    public int orbits(int kind, int what) {
        if (!isTurnKind(kind) || what < 0 || what > 2) {
            return BAD;
        }
        int found = findOrbits(kind);
        if (what == 0) {
            return found;
        }
        return what == 1 ? orderOf(found) : longestOf(found);
    }

    public int measure(int kind, int set) {
        if (!isMeasureKind(kind) || !isHeap(set)) {
            return NO;
        }
        traced += traceOf(kind);
        return measured(kind, set);
    }

    public int mean(int set, int turns, int measures, int part) {
        if (!isHeap(set) || !isTurnKind(turns) || !isMeasureKind(measures) || part < 0 || part > 1) {
            return NO;
        }
        int length = walkOrbit(set, turns);
        int sum = sumOfOrbit(set, length, turns, measures);
        int shared = commonDivisor(Math.abs(sum), length);
        return part == 0 ? sum / shared : length / shared;
    }

    public int even(int turns, int measures) {
        if (!isTurnKind(turns) || !isMeasureKind(measures)) {
            return BAD;
        }
        int found = findOrbits(turns);
        int firstLength = lengths[0];
        int firstSum = sumOfOrbit(starts[0], firstLength, turns, measures);
        for (int which = 1; which < found; which++) {
            int sum = sumOfOrbit(starts[which], lengths[which], turns, measures);
            // Means are compared crosswise, as they may be no whole numbers.
            if (sum * firstLength != firstSum * lengths[which]) {
                return 0;
            }
        }
        return 1;
    }

    // ---- fillings, counts

    public int fillings(int h) {
        if (!isHeight(h)) {
            return BAD;
        }
        // A filling is a row of h heaps (those with a number of at least 1, 2, ..), each within the
        // one before: counting such rows is far cheaper than trying all numbers.
        for (int set = 0; set < setCount(); set++) {
            ways[set] = isHeap(set) ? 1 : 0;
        }
        for (int level = 2; level <= h; level++) {
            extendRows();
        }
        int sum = 0;
        for (int set = 0; set < setCount(); set++) {
            sum += ways[set];
        }
        return sum;
    }

    public int bend(int h, int filling, int thing) {
        if (!isThing(thing) || !readFilling(h, filling)) {
            return BAD;
        }
        flipDigit(h, thing);
        return numberOfDigits(h);
    }

    public int round(int h, int filling, int kind) {
        if (!isTurnKind(kind) || !readFilling(h, filling)) {
            return BAD;
        }
        turnDigits(h, kind);
        return numberOfDigits(h);
    }

    public int period(int h, int filling, int kind) {
        if (!isTurnKind(kind) || !readFilling(h, filling)) {
            return BAD;
        }
        for (int turns = 1; turns <= MOST_TURNS; turns++) {
            turnDigits(h, kind);
            if (numberOfDigits(h) == filling) {
                return turns;
            }
        }
        return NONE;
    }

    public int counts(int k) {
        if (k < 0 || k > thingCount) {
            return BAD;
        }
        countSizes();
        return sizes[k];
    }

    public int at(int d) {
        // A root w and its inverse have a whole sum s for just these d, and w w = s w - 1.
        switch (d) {
            case 1:
                return sumAtRoot(d, 2);
            case 2:
                return sumAtRoot(d, -2);
            case 3:
                return sumAtRoot(d, -1);
            case 4:
                return sumAtRoot(d, 0);
            case 6:
                return sumAtRoot(d, 1);
            default:
                return NO - 1;
        }
    }

    public int stays(int kind, int j) {
        if (!isTurnKind(kind) || !isTurnNumber(j)) {
            return BAD;
        }
        int found = findOrbits(kind);
        int staying = 0;
        for (int which = 0; which < found; which++) {
            int length = lengths[which];
            // A heap is back behind just the multiples of its orbit's length.
            if (length > 0 && j % length == 0) {
                staying += length;
            }
        }
        return staying;
    }

    public int count(int what) {
        switch (what) {
            case 0:
                return thingCount;
            case 1:
                return chainLength;
            case 2:
                return pairCount();
            default:
                return BAD;
        }
    }

    public long trace() {
        return traced;
    }

    // ---- what numbers may be

    private boolean isThing(int thing) {
        return thing >= 0 && thing < thingCount;
    }

    private boolean isSet(int set) {
        return set >= 0 && set < setCount();
    }

    private static boolean isTurnKind(int kind) {
        return kind == ROUND || kind == CHAIN;
    }

    private static boolean isMeasureKind(int kind) {
        return kind >= SIZE && kind <= EDGED;
    }

    private static boolean isTurnNumber(int turns) {
        return turns >= 0 && turns <= MOST_TURNS;
    }

    private static boolean isHeight(int h) {
        return h >= 1 && h <= MOST_HEIGHT;
    }

    // ---- sets and heaps

    private int setCount() {
        return 1 << thingCount;
    }

    private static boolean has(int set, int thing) {
        return (set >> thing & 1) != 0;
    }

    private boolean isHeap(int set) {
        if (!isSet(set)) {
            return false;
        }
        for (int thing = 0; thing < thingCount; thing++) {
            if (has(set, thing) && (under[thing] & ~set) != 0) {
                return false;
            }
        }
        return true;
    }

    private int flipped(int heap, int thing) {
        int hindering = has(heap, thing) ? over[thing] & heap : under[thing] & ~heap;
        return hindering == 0 ? heap ^ 1 << thing : heap;
    }

    private int turned(int heap, int kind) {
        return kind == ROUND ? turnedRound(heap) : turnedByChain(heap);
    }

    private int turnedRound(int heap) {
        int made = 0;
        for (int thing = 0; thing < thingCount; thing++) {
            if (!has(heap, thing) && (under[thing] & ~heap) == 0) {
                made |= under[thing] | 1 << thing;
            }
        }
        return made;
    }

    private int turnedByChain(int heap) {
        int made = heap;
        for (int place = 0; place < chainLength; place++) {
            made = flipped(made, chain[place]);
        }
        return made;
    }

    private int pairCount() {
        int pairs = 0;
        for (int thing = 0; thing < thingCount; thing++) {
            pairs += Integer.bitCount(under[thing]);
        }
        return pairs;
    }

    private void countSizes() {
        for (int size = 0; size <= thingCount; size++) {
            sizes[size] = 0;
        }
        for (int set = 0; set < setCount(); set++) {
            if (isHeap(set)) {
                sizes[Integer.bitCount(set)]++;
            }
        }
    }

    // ---- orbits

    // Turns can be undone, so that every heap comes back, behind no more turns than there are sets.
    private int walkOrbit(int start, int kind) {
        int heap = start;
        int turns = 0;
        do {
            seen[heap] = true;
            heap = turned(heap, kind);
            turns++;
        } while (heap != start && turns < MOST_SETS);
        return turns;
    }

    private int findOrbits(int kind) {
        for (int set = 0; set < setCount(); set++) {
            seen[set] = !isHeap(set);
        }
        int found = 0;
        for (int set = 0; set < setCount(); set++) {
            if (!seen[set]) {
                starts[found] = set;
                lengths[found] = walkOrbit(set, kind);
                found++;
            }
        }
        return found;
    }

    private int orderOf(int found) {
        int order = 1;
        for (int which = 0; which < found; which++) {
            int step = lengths[which] / commonDivisor(order, lengths[which]);
            long next = (long) order * step;
            // What is too great already only grows, and would grow beyond a long.
            if (next > MOST_ORDER) {
                return NONE;
            }
            order = (int) next;
        }
        return order;
    }

    private int longestOf(int found) {
        int longest = 0;
        for (int which = 0; which < found; which++) {
            longest = Math.max(longest, lengths[which]);
        }
        return longest;
    }

    // At least 1 whatever is given, so that it can always divide.
    private static int commonDivisor(int a, int b) {
        int greater = a;
        int less = b;
        for (int step = 0; step < MOST_DIVISIONS && less != 0; step++) {
            int rest = greater % less;
            greater = less;
            less = rest;
        }
        return Math.max(1, greater);
    }

    // ---- measures

    private static int traceOf(int kind) {
        // A kind's body asks the one that stands over it, so that theirs come along.
        int sum = SIZE_TRACE;
        if (kind >= WEIGHED) {
            sum += WEIGHED_TRACE;
        }
        if (kind >= EDGED) {
            sum += EDGED_TRACE;
        }
        return sum;
    }

    private int measured(int kind, int heap) {
        if (kind == EDGED) {
            return edged(heap);
        }
        return kind == WEIGHED ? weighed(heap) : Integer.bitCount(heap);
    }

    private int weighed(int heap) {
        int sum = Integer.bitCount(heap);
        for (int thing = 0; thing < thingCount; thing++) {
            if (has(heap, thing)) {
                sum += weights[thing];
            }
        }
        return sum;
    }

    private int edged(int heap) {
        int sum = weighed(heap);
        for (int thing = 0; thing < thingCount; thing++) {
            if (has(heap, thing) && (over[thing] & heap) == 0) {
                sum++;
            }
        }
        return sum;
    }

    private int sumOfOrbit(int start, int length, int turns, int measures) {
        int sum = 0;
        int heap = start;
        for (int done = 0; done < length; done++) {
            sum += measured(measures, heap);
            heap = turned(heap, turns);
        }
        return sum;
    }

    // ---- fillings

    // Each heap gets the ways of all heaps within it: summed over subsets one thing at a time.
    private void extendRows() {
        for (int thing = 0; thing < thingCount; thing++) {
            for (int set = 0; set < setCount(); set++) {
                if (has(set, thing)) {
                    ways[set] += ways[set ^ 1 << thing];
                }
            }
        }
        for (int set = 0; set < setCount(); set++) {
            if (!isHeap(set)) {
                ways[set] = 0;
            }
        }
    }

    // Puts a filling's numbers into the row of digits; false: h or the filling is none.
    private boolean readFilling(int h, int filling) {
        if (!isHeight(h) || filling < 0) {
            return false;
        }
        int rest = filling;
        for (int thing = 0; thing < thingCount; thing++) {
            digits[thing] = rest % (h + 1);
            rest /= h + 1;
        }
        return rest == 0 && digitsFallUpwards();
    }

    private boolean digitsFallUpwards() {
        for (int thing = 0; thing < thingCount; thing++) {
            for (int lower = 0; lower < thing; lower++) {
                if (has(under[thing], lower) && digits[lower] < digits[thing]) {
                    return false;
                }
            }
        }
        return true;
    }

    private int numberOfDigits(int h) {
        int number = 0;
        for (int thing = thingCount - 1; thing >= 0; thing--) {
            number = number * (h + 1) + digits[thing];
        }
        return number;
    }

    private void flipDigit(int h, int thing) {
        int least = h;
        int greatest = 0;
        for (int other = 0; other < thingCount; other++) {
            if (has(under[thing], other)) {
                least = Math.min(least, digits[other]);
            }
            if (has(over[thing], other)) {
                greatest = Math.max(greatest, digits[other]);
            }
        }
        digits[thing] = least + greatest - digits[thing];
    }

    private void turnDigits(int h, int kind) {
        if (kind == ROUND) {
            for (int thing = thingCount - 1; thing >= 0; thing--) {
                flipDigit(h, thing);
            }
        } else {
            for (int place = 0; place < chainLength; place++) {
                flipDigit(h, chain[place]);
            }
        }
    }

    // ---- roots

    private int sumAtRoot(int d, int rootAndInverse) {
        countSizes();
        // The sum so far is whole + times w; times w it is -times + (whole + s times) w.
        int whole = 0;
        int times = 0;
        for (int size = thingCount; size >= 0; size--) {
            int raised = whole + rootAndInverse * times;
            whole = sizes[size] - times;
            times = raised;
        }
        if (d == 1) {
            return whole + times;
        }
        if (d == 2) {
            return whole - times;
        }
        // Any other root is no real number, so that a part of it spoils the sum.
        return times == 0 ? whole : NO;
    }
}
