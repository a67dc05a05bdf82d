/**
 * Each sentence of the document that names an edge, with a test of its own: the last number that is
 * still as told and the first that is not, on both sides; what is empty and what is full.
 * RefusalsTest goes through every number of every call; here are the answers at the edges.
 */
public final class EdgesTest {
    private static final int BAD = -1;
    private static final int FULL = -3;
    private static final int NONE = -9;
    private static final int NO = -1000000;
    private static final int LEAST = Integer.MIN_VALUE;
    private static final int GREATEST = Integer.MAX_VALUE;
    private static int wrong = 0;
    private static String sentence = "";

    public static void main(String[] args) {
        threeThingsAtFirst();
        thingsAreOneToEight();
        thingsBeginAnew();
        lessIsBelowGreater();
        belowGoesOn();
        noneIsBelowItself();
        weightsAreMinusNineToNine();
        weightsAreZeroAtFirst();
        chainHasSixteenAtMost();
        fullChainTurnsByAll();
        emptyChainTurnsNothing();
        hushEmptiesTheChain();
        emptySetIsAHeap();
        setOfAllIsAHeap();
        bitsBeyondAreBad();
        fewestAndMostHeaps();
        flipOfTheEmptyHeap();
        flipOfTheHeapOfAll();
        flipOfNoHeap();
        roundOfTheEmptyHeap();
        roundOfTheHeapOfAll();
        turnsAreNoneToThousand();
        kindsOfTurns();
        shortestAndLongestOrbit();
        fewestAndMostOrbits();
        greatestOrder();
        orbitsOfAStar();
        kindsOfMeasures();
        measuresOfTheEmptyHeap();
        measuresOfTheHeapOfAll();
        measureOfNoHeap();
        meanInLeastForm();
        meanBelowZero();
        meanHasTwoParts();
        evenOfOneOrbit();
        evenOfManyOrbits();
        heightsAreOneToThree();
        leastAndGreatestFilling();
        bendWithNoneBelowAndNoneAbove();
        bendOfNoFilling();
        roundGoesFromTheGreatestDown();
        roundByTheChain();
        periodUpToThousand();
        countsAreNoneToAll();
        rootsAreFive();
        rootsOfTowers();
        rootsOfFreeThings();
        staysBehindNoneToThousand();
        countsOfWhat();
        traceOfMeasures();
        badComesBeforeFull();
        fiveHundredAndTwelveCalls();
        System.out.println(wrong == 0 ? "EdgesTest: all answers are as due" : "EdgesTest: " + wrong + " answers are not as due");
        if (wrong != 0) {
            System.exit(1);
        }
    }

    private static void due(String call, long got, long want) {
        if (got != want) {
            wrong++;
            System.out.println(sentence + ": " + call + " answered " + got + ", due is " + want);
        }
    }

    /** n things, none below another one. */
    private static FlipHeaps free(int n) {
        FlipHeaps x = new FlipHeaps();
        x.things(n);
        return x;
    }

    /** 0 below 1 below 2 ..: a heap for each size. */
    private static FlipHeaps tower(int n) {
        FlipHeaps x = free(n);
        for (int k = 1; k < n; k++) {
            x.lay(k - 1, k);
        }
        return x;
    }

    /** 0 and 1 below 2: heaps 0, 1, 2, 3, 7; rounds 0 3 7 and 1 2. */
    private static FlipHeaps roof() {
        FlipHeaps x = new FlipHeaps();
        x.lay(0, 2);
        x.lay(1, 2);
        return x;
    }

    /** Pairs are written as two digits, i and k of i below k. */
    private static FlipHeaps order(int[] pairs, int... chain) {
        FlipHeaps x = free(8);
        for (int pair : pairs) {
            x.lay(pair / 10, pair % 10);
        }
        sayAll(x, chain);
        return x;
    }

    private static void sayAll(FlipHeaps x, int... chain) {
        for (int thing : chain) {
            x.say(thing);
        }
    }

    private static void weighAll(FlipHeaps x, int v) {
        int n = x.count(0);
        for (int k = 0; k < n; k++) {
            x.weight(k, v);
        }
    }

    private static int power(int base, int times) {
        int made = 1;
        for (int k = 0; k < times; k++) {
            made *= base;
        }
        return made;
    }

    private static int commonDivisor(int a, int b) {
        return b == 0 ? a : commonDivisor(b, a % b);
    }

    // ---- things

    private static void threeThingsAtFirst() {
        sentence = "1: three things, none below another one; an empty chain";
        FlipHeaps x = new FlipHeaps();
        due("count(0)", x.count(0), 3);
        due("count(1)", x.count(1), 0);
        due("count(2)", x.count(2), 0);
        due("heap(7)", x.heap(7), 1);
        due("heap(8)", x.heap(8), BAD);
        due("flip(0, 2)", x.flip(0, 2), 4);
        due("flip(0, 3)", x.flip(0, 3), BAD);
        due("hush()", x.hush(), 0);
        due("trace()", x.trace(), 0);
        due("things(3)", x.things(3), 3);
    }

    private static void thingsAreOneToEight() {
        sentence = "2: n is 1 .. 8";
        FlipHeaps x = new FlipHeaps();
        due("things(1)", x.things(1), 3);
        due("things(0)", x.things(0), BAD);
        due("things(-1)", x.things(-1), BAD);
        due("things(LEAST)", x.things(LEAST), BAD);
        due("count(0)", x.count(0), 1);
        due("things(8)", x.things(8), 1);
        due("things(9)", x.things(9), BAD);
        due("things(GREATEST)", x.things(GREATEST), BAD);
        // 3 in its lowest bits, if too few of them were looked at.
        due("things(256 + 3)", x.things(256 + 3), BAD);
        due("things(LEAST + 3)", x.things(LEAST + 3), BAD);
        due("count(0)", x.count(0), 8);
        for (int n = 1; n <= 8; n++) {
            x.things(n);
            due("count(0) of " + n, x.count(0), n);
            due("say(n - 1) of " + n, x.say(n - 1), 1);
            due("say(n) of " + n, x.say(n), BAD);
        }
    }

    private static void thingsBeginAnew() {
        sentence = "2: none below another one, weights 0, the chain empty";
        for (int n = 1; n <= 8; n++) {
            FlipHeaps x = tower(8);
            weighAll(x, 9);
            sayAll(x, 7, 6, 5, 4, 3, 2, 1, 0, 7, 6, 5, 4, 3, 2, 1, 0);
            due("things(" + n + ")", x.things(n), 8);
            due("count(1)", x.count(1), 0);
            due("count(2)", x.count(2), 0);
            due("many()", x.many(), 1 << n);
            due("measure(1, all)", x.measure(1, (1 << n) - 1), n);
            due("measure(2, all)", x.measure(2, (1 << n) - 1), 2 * n);
            due("flip(all, 0)", x.flip((1 << n) - 1, 0), (1 << n) - 2);
            due("bend(3, all, 0)", x.bend(3, power(4, n) - 1, 0), power(4, n) - 4);
            due("orbits(1, 2)", x.orbits(1, 2), 1);
            due("things(8)", x.things(8), n);
            due("count(2) of 8", x.count(2), 0);
            due("many() of 8", x.many(), 256);
            for (int k = 0; k < 8; k++) {
                due("weight(" + k + ", 0)", x.weight(k, 0), 0);
            }
        }
    }

    private static void lessIsBelowGreater() {
        sentence = "3: BAD: i is not less than k";
        FlipHeaps x = free(8);
        due("lay(7, 0)", x.lay(7, 0), BAD);
        due("lay(1, 0)", x.lay(1, 0), BAD);
        due("lay(7, 6)", x.lay(7, 6), BAD);
        for (int k = 0; k < 8; k++) {
            due("lay(" + k + ", " + k + ")", x.lay(k, k), BAD);
        }
        due("lay(-1, 0)", x.lay(-1, 0), BAD);
        due("lay(7, 8)", x.lay(7, 8), BAD);
        due("lay(0, 8)", x.lay(0, 8), BAD);
        due("lay(-1, 7)", x.lay(-1, 7), BAD);
        due("lay(LEAST, 7)", x.lay(LEAST, 7), BAD);
        due("lay(0, GREATEST)", x.lay(0, GREATEST), BAD);
        due("lay(LEAST, GREATEST)", x.lay(LEAST, GREATEST), BAD);
        due("count(2)", x.count(2), 0);
        due("lay(0, 1)", x.lay(0, 1), 1);
        due("lay(6, 7)", x.lay(6, 7), 1);
        due("lay(0, 7)", x.lay(0, 7), 1);
        due("lay(0, 7) again", x.lay(0, 7), 0);
        due("lay(1, 0) behind lay(0, 1)", x.lay(1, 0), BAD);
        due("count(2)", x.count(2), 3);
        FlipHeaps one = free(1);
        due("lay(0, 0) of one thing", one.lay(0, 0), BAD);
        due("lay(0, 1) of one thing", one.lay(0, 1), BAD);
        due("count(2) of one thing", one.count(2), 0);
    }

    private static void belowGoesOn() {
        sentence = "3: if i is below k, k below m, i is below m";
        // The last pair laid joins two rows, so that all pairs between them come at once.
        FlipHeaps x = free(8);
        for (int k : new int[] {0, 1, 2, 4, 5, 6}) {
            x.lay(k, k + 1);
        }
        due("count(2) of two rows of four", x.count(2), 12);
        due("below(0, 7)", x.below(0, 7), 0);
        due("lay(3, 4)", x.lay(3, 4), 1);
        due("count(2) of all pairs", x.count(2), 28);
        for (int i = 0; i < 8; i++) {
            for (int k = 0; k < 8; k++) {
                due("below(" + i + ", " + k + ")", x.below(i, k), i < k ? 1 : 0);
            }
        }
        due("lay(0, 7) follows", x.lay(0, 7), 0);
        due("many()", x.many(), 9);
        // Things that are not on the way stay beside.
        FlipHeaps y = free(4);
        y.lay(0, 2);
        y.lay(2, 3);
        due("below(0, 3)", y.below(0, 3), 1);
        due("below(0, 1)", y.below(0, 1), 0);
        due("below(1, 3)", y.below(1, 3), 0);
    }

    private static void noneIsBelowItself() {
        sentence = "4: whether i is below k";
        FlipHeaps x = tower(8);
        for (int k = 0; k < 8; k++) {
            due("below(" + k + ", " + k + ")", x.below(k, k), 0);
        }
        due("below(0, 7)", x.below(0, 7), 1);
        due("below(7, 0)", x.below(7, 0), 0);
        due("below(8, 0)", x.below(8, 0), BAD);
        due("below(0, 8)", x.below(0, 8), BAD);
        due("below(-1, 7)", x.below(-1, 7), BAD);
        due("below(7, -1)", x.below(7, -1), BAD);
        due("below(-1, -1)", x.below(-1, -1), BAD);
        due("below(8, 8)", x.below(8, 8), BAD);
        // Shifts by 32 are none in Java.
        due("below(32, 39)", x.below(32, 39), BAD);
        due("below(LEAST, 1)", x.below(LEAST, 1), BAD);
        due("below(0, GREATEST)", x.below(0, GREATEST), BAD);
    }

    private static void weightsAreMinusNineToNine() {
        sentence = "5: weights are -9 .. 9";
        FlipHeaps x = free(8);
        due("weight(7, 9)", x.weight(7, 9), 0);
        due("weight(7, 10)", x.weight(7, 10), NO);
        due("weight(7, GREATEST)", x.weight(7, GREATEST), NO);
        due("measure(1, 128)", x.measure(1, 128), 10);
        due("weight(7, -9)", x.weight(7, -9), 9);
        due("weight(7, -10)", x.weight(7, -10), NO);
        due("weight(7, LEAST)", x.weight(7, LEAST), NO);
        due("measure(1, 128)", x.measure(1, 128), -8);
        due("weight(7, 0)", x.weight(7, 0), -9);
        due("weight(7, 256)", x.weight(7, 256), NO);
        due("weight(0, 9)", x.weight(0, 9), 0);
        due("weight(8, 9)", x.weight(8, 9), NO);
        due("weight(-1, 9)", x.weight(-1, 9), NO);
        due("weight(LEAST, 0)", x.weight(LEAST, 0), NO);
        due("weight(GREATEST, 0)", x.weight(GREATEST, 0), NO);
    }

    private static void weightsAreZeroAtFirst() {
        sentence = "5: weights are 0 at first";
        FlipHeaps x = new FlipHeaps();
        for (int set = 0; set < 8; set++) {
            due("measure(1, " + set + ")", x.measure(1, set), Integer.bitCount(set));
        }
        for (int k = 0; k < 3; k++) {
            due("weight(" + k + ", 1)", x.weight(k, 1), 0);
        }
    }

    // ---- the chain

    private static void chainHasSixteenAtMost() {
        sentence = "6: sixteen things at most";
        FlipHeaps x = free(8);
        for (int k = 1; k <= 16; k++) {
            due("say, the " + k + "th", x.say(k % 8), k);
            due("count(1)", x.count(1), k);
        }
        due("say, the 17th", x.say(0), FULL);
        due("say, the 17th again", x.say(7), FULL);
        due("count(1)", x.count(1), 16);
    }

    private static void fullChainTurnsByAll() {
        sentence = "6: the chain flips its things, one after the other";
        FlipHeaps x = new FlipHeaps();
        for (int k = 0; k < 15; k++) {
            x.say(0);
        }
        due("turn(0, 1, 1) by fifteen", x.turn(0, 1, 1), 1);
        due("say(1)", x.say(1), 16);
        due("turn(0, 1, 1) by sixteen", x.turn(0, 1, 1), 3);
        due("round(3, 0, 1) by sixteen", x.round(3, 0, 1), 3 + 3 * 4);
        due("say(2)", x.say(2), FULL);
        due("turn(0, 1, 1) behind FULL", x.turn(0, 1, 1), 3);
        due("round(3, 0, 1) behind FULL", x.round(3, 0, 1), 3 + 3 * 4);
        due("orbits(1, 0)", x.orbits(1, 0), 4);
        due("orbits(1, 1)", x.orbits(1, 1), 2);
        // A tower taken from above comes in by one thing with each turn of eight.
        FlipHeaps y = tower(8);
        sayAll(y, 7, 6, 5, 4, 3, 2, 1, 0, 7, 6, 5, 4, 3, 2, 1, 0);
        due("turn(0, 1, 1) of a tower", y.turn(0, 1, 1), 3);
        due("turn(255, 1, 1) of a tower", y.turn(255, 1, 1), 1);
        due("orbit(0, 1) of a tower", y.orbit(0, 1), 9);
    }

    private static void emptyChainTurnsNothing() {
        sentence = "an empty chain leaves each heap and each filling";
        FlipHeaps x = roof();
        for (int heap : new int[] {0, 1, 2, 3, 7}) {
            due("turn(" + heap + ", 1, 1)", x.turn(heap, 1, 1), heap);
            due("turn(" + heap + ", 1, 1000)", x.turn(heap, 1, 1000), heap);
            due("orbit(" + heap + ", 1)", x.orbit(heap, 1), 1);
            due("mean(" + heap + ", 1, 0, 0)", x.mean(heap, 1, 0, 0), Integer.bitCount(heap));
            due("mean(" + heap + ", 1, 0, 1)", x.mean(heap, 1, 0, 1), 1);
            due("round(1, " + heap + ", 1)", x.round(1, heap, 1), heap);
            due("period(1, " + heap + ", 1)", x.period(1, heap, 1), 1);
        }
        due("turn(4, 1, 1) of no heap", x.turn(4, 1, 1), BAD);
        due("orbits(1, 0)", x.orbits(1, 0), 5);
        due("orbits(1, 1)", x.orbits(1, 1), 1);
        due("orbits(1, 2)", x.orbits(1, 2), 1);
        due("stays(1, 0)", x.stays(1, 0), 5);
        due("stays(1, 1)", x.stays(1, 1), 5);
        due("stays(1, 1000)", x.stays(1, 1000), 5);
        due("even(1, 0)", x.even(1, 0), 0);
        due("round(3, 63, 1)", x.round(3, 63, 1), 63);
        due("period(3, 63, 1)", x.period(3, 63, 1), 1);
    }

    private static void hushEmptiesTheChain() {
        sentence = "7: the chain is empty: how many it had";
        FlipHeaps x = new FlipHeaps();
        due("hush() of none", x.hush(), 0);
        x.say(2);
        due("hush() of one", x.hush(), 1);
        for (int filled = 0; filled < 2; filled++) {
            for (int k = 0; k < 17; k++) {
                x.say(1);
            }
            due("hush() of sixteen", x.hush(), 16);
            due("count(1)", x.count(1), 0);
            due("turn(0, 1, 1)", x.turn(0, 1, 1), 0);
        }
        due("hush() of none again", x.hush(), 0);
        due("say(0)", x.say(0), 1);
        due("turn(0, 1, 1) by what came behind", x.turn(0, 1, 1), 1);
    }

    // ---- heaps

    private static void emptySetIsAHeap() {
        sentence = "8: the empty set has with each all that are below it";
        for (int n = 1; n <= 8; n++) {
            due("heap(0) of " + n + " free", free(n).heap(0), 1);
            due("heap(0) of a tower of " + n, tower(n).heap(0), 1);
        }
    }

    private static void setOfAllIsAHeap() {
        sentence = "8: the set of all has with each all that are below it";
        for (int n = 1; n <= 8; n++) {
            int all = (1 << n) - 1;
            due("heap(all) of " + n + " free", free(n).heap(all), 1);
            due("heap(all) of a tower of " + n, tower(n).heap(all), 1);
            // All but the lowest thing is none, as soon as there is another one on it.
            due("heap(all - 1) of a tower of " + n, tower(n).heap(all - 1), n == 1 ? 1 : 0);
        }
    }

    private static void bitsBeyondAreBad() {
        sentence = "8: BAD: bits beyond";
        for (int n = 1; n <= 8; n++) {
            FlipHeaps x = free(n);
            due("heap(2^" + n + " - 1)", x.heap((1 << n) - 1), 1);
            for (int bit = n; bit < 32; bit++) {
                due("heap(1 << " + bit + ") of " + n, x.heap(1 << bit), BAD);
                due("heap(1 << " + bit + " | 1) of " + n, x.heap(1 << bit | 1), BAD);
            }
            due("heap(-1) of " + n, x.heap(-1), BAD);
            due("heap(GREATEST) of " + n, x.heap(GREATEST), BAD);
        }
        FlipHeaps y = roof();
        due("heap(4) has no bits beyond", y.heap(4), 0);
        due("heap(8 | 4)", y.heap(12), BAD);
    }

    private static void fewestAndMostHeaps() {
        sentence = "9: how many heaps there are";
        for (int n = 1; n <= 8; n++) {
            due("many() of " + n + " free", free(n).many(), 1 << n);
            due("many() of a tower of " + n, tower(n).many(), n + 1);
        }
    }

    private static void flipOfTheEmptyHeap() {
        sentence = "10: it comes in, if all is a heap then; else nothing is done";
        for (int n = 1; n <= 8; n++) {
            FlipHeaps x = tower(n);
            for (int k = 0; k < n; k++) {
                due("flip(0, " + k + ") of a tower of " + n, x.flip(0, k), k == 0 ? 1 : 0);
                due("flip(0, " + k + ") of " + n + " free", free(n).flip(0, k), 1 << k);
            }
            due("flip(0, " + n + ")", x.flip(0, n), BAD);
            due("flip(0, -1)", x.flip(0, -1), BAD);
            due("flip(0, 32)", x.flip(0, 32), BAD);
        }
    }

    private static void flipOfTheHeapOfAll() {
        sentence = "10: it goes out, if the rest is a heap; else nothing is done";
        for (int n = 1; n <= 8; n++) {
            FlipHeaps x = tower(n);
            int all = (1 << n) - 1;
            for (int k = 0; k < n; k++) {
                int rest = all - (1 << k);
                due("flip(all, " + k + ") of a tower of " + n, x.flip(all, k), k == n - 1 ? rest : all);
                due("flip(all, " + k + ") of " + n + " free", free(n).flip(all, k), rest);
            }
            due("flip(all, " + n + ")", x.flip(all, n), BAD);
            due("flip(all, -1)", x.flip(all, -1), BAD);
            due("flip(all, LEAST)", x.flip(all, LEAST), BAD);
            due("flip(all, GREATEST)", x.flip(all, GREATEST), BAD);
        }
    }

    private static void flipOfNoHeap() {
        sentence = "10: BAD: it is none";
        FlipHeaps x = roof();
        for (int set : new int[] {4, 5, 6, 8, 9, 256, -1, LEAST, GREATEST}) {
            for (int k = 0; k < 3; k++) {
                due("flip(" + set + ", " + k + ")", x.flip(set, k), BAD);
            }
        }
    }

    // ---- turns

    private static void roundOfTheEmptyHeap() {
        sentence = "11: round of the empty heap is all the least things";
        for (int n = 1; n <= 8; n++) {
            due("turn(0, 0, 1) of a tower of " + n, tower(n).turn(0, 0, 1), 1);
            due("turn(0, 0, 1) of " + n + " free", free(n).turn(0, 0, 1), (1 << n) - 1);
        }
        due("turn(0, 0, 1) of a roof", roof().turn(0, 0, 1), 3);
    }

    private static void roundOfTheHeapOfAll() {
        sentence = "11: round of the heap of all is empty";
        for (int n = 1; n <= 8; n++) {
            due("turn(all, 0, 1) of a tower of " + n, tower(n).turn((1 << n) - 1, 0, 1), 0);
            due("turn(all, 0, 1) of " + n + " free", free(n).turn((1 << n) - 1, 0, 1), 0);
        }
        due("turn(7, 0, 1) of a roof", roof().turn(7, 0, 1), 0);
    }

    private static void turnsAreNoneToThousand() {
        sentence = "11: n turns, 0 .. 1000";
        FlipHeaps x = tower(8);
        due("turn(0, 0, 0)", x.turn(0, 0, 0), 0);
        due("turn(255, 0, 0)", x.turn(255, 0, 0), 255);
        due("turn(2, 0, 0) of no heap", x.turn(2, 0, 0), BAD);
        due("turn(0, 0, -1)", x.turn(0, 0, -1), BAD);
        due("turn(0, 0, LEAST)", x.turn(0, 0, LEAST), BAD);
        // Nine turns are a round trip: 999 is 111 of them.
        due("turn(0, 0, 999)", x.turn(0, 0, 999), 0);
        due("turn(0, 0, 1000)", x.turn(0, 0, 1000), 1);
        due("turn(0, 0, 1001)", x.turn(0, 0, 1001), BAD);
        due("turn(0, 0, GREATEST)", x.turn(0, 0, GREATEST), BAD);
        x.say(0);
        due("turn(0, 1, 999)", x.turn(0, 1, 999), 1);
        due("turn(0, 1, 1000)", x.turn(0, 1, 1000), 0);
        due("turn(0, 1, 1001)", x.turn(0, 1, 1001), BAD);
        due("turn(0, 1, -1)", x.turn(0, 1, -1), BAD);
    }

    private static void kindsOfTurns() {
        sentence = "kinds of turns: 0 round, 1 chain";
        FlipHeaps x = roof();
        x.say(0);
        due("turn(3, 0, 1)", x.turn(3, 0, 1), 7);
        due("turn(3, 1, 1)", x.turn(3, 1, 1), 2);
        due("orbit(0, 0)", x.orbit(0, 0), 3);
        due("orbit(0, 1)", x.orbit(0, 1), 2);
        due("orbits(0, 0)", x.orbits(0, 0), 2);
        due("orbits(1, 0)", x.orbits(1, 0), 3);
        due("mean(0, 0, 0, 1)", x.mean(0, 0, 0, 1), 3);
        due("mean(0, 1, 0, 1)", x.mean(0, 1, 0, 1), 2);
        due("round(1, 0, 0)", x.round(1, 0, 0), 3);
        due("round(1, 0, 1)", x.round(1, 0, 1), 1);
        due("period(1, 0, 0)", x.period(1, 0, 0), 3);
        due("period(1, 0, 1)", x.period(1, 0, 1), 2);
        due("stays(0, 3)", x.stays(0, 3), 3);
        due("stays(1, 3)", x.stays(1, 3), 1);
        for (int kind : new int[] {-1, 2, LEAST, GREATEST}) {
            due("turn(0, " + kind + ", 0)", x.turn(0, kind, 0), BAD);
            due("orbit(0, " + kind + ")", x.orbit(0, kind), BAD);
            due("orbits(" + kind + ", 0)", x.orbits(kind, 0), BAD);
            due("mean(0, " + kind + ", 0, 0)", x.mean(0, kind, 0, 0), NO);
            due("even(" + kind + ", 0)", x.even(kind, 0), BAD);
            due("round(1, 0, " + kind + ")", x.round(1, 0, kind), BAD);
            due("period(1, 0, " + kind + ")", x.period(1, 0, kind), BAD);
            due("stays(" + kind + ", 0)", x.stays(kind, 0), BAD);
        }
    }

    private static void shortestAndLongestOrbit() {
        sentence = "12: how many turns till it comes back first";
        for (int n = 1; n <= 8; n++) {
            FlipHeaps x = tower(n);
            due("orbit(0, 0) of a tower of " + n, x.orbit(0, 0), n + 1);
            due("orbit(all, 0) of a tower of " + n, x.orbit((1 << n) - 1, 0), n + 1);
            due("orbit(0, 1) of an empty chain", x.orbit(0, 1), 1);
            due("orbit(2^n, 0)", x.orbit(1 << n, 0), BAD);
            due("orbit(0, 0) of " + n + " free", free(n).orbit(0, 0), 2);
        }
        FlipHeaps y = roof();
        for (int set : new int[] {4, 5, 6, 8, -1, LEAST, GREATEST}) {
            due("orbit(" + set + ", 0)", y.orbit(set, 0), BAD);
            due("orbit(" + set + ", 1)", y.orbit(set, 1), BAD);
        }
    }

    private static void fewestAndMostOrbits() {
        sentence = "13: orbits (0), order (1), the longest orbit (2)";
        for (int n = 1; n <= 8; n++) {
            FlipHeaps x = tower(n);
            due("orbits(0, 0) of a tower of " + n, x.orbits(0, 0), 1);
            due("orbits(0, 1) of a tower of " + n, x.orbits(0, 1), n + 1);
            due("orbits(0, 2) of a tower of " + n, x.orbits(0, 2), n + 1);
            FlipHeaps y = free(n);
            due("orbits(1, 0) of " + n + " free", y.orbits(1, 0), 1 << n);
            due("orbits(1, 1) of " + n + " free", y.orbits(1, 1), 1);
            due("orbits(1, 2) of " + n + " free", y.orbits(1, 2), 1);
            // Round takes free things to those that are left.
            due("orbits(0, 0) of " + n + " free", y.orbits(0, 0), 1 << n - 1);
            due("orbits(0, 1) of " + n + " free", y.orbits(0, 1), 2);
            due("orbits(0, 2) of " + n + " free", y.orbits(0, 2), 2);
        }
        FlipHeaps z = roof();
        for (int what : new int[] {-1, 3, LEAST, GREATEST}) {
            due("orbits(0, " + what + ")", z.orbits(0, what), BAD);
            due("orbits(1, " + what + ")", z.orbits(1, what), BAD);
        }
    }

    /**
     * No order of eight things comes above 1000000000, so that NONE is never due. Of all that hang
     * together only the two with one thing below (or above) all others have more than 98 heaps, and
     * lengths that sum to 98 have no greater common multiple than 232792560. In these two a chain
     * leaves all but 33 heaps in orbits of 1 or 2. Of what is in parts, the parts' orders multiply to less.
     */
    private static void greatestOrder() {
        sentence = "13: order is the least number of turns by which all are back";
        FlipHeaps x = order(new int[] {3, 4, 6, 13, 15, 17, 25}, 1, 5, 2, 1, 7, 4, 1, 3, 0, 3, 0, 2, 6, 3, 0);
        int least = 1;
        int longest = 0;
        for (int set = 0; set < 256; set++) {
            int length = x.orbit(set, 1);
            if (length != BAD) {
                least = least / commonDivisor(least, length) * length;
                longest = Math.max(longest, length);
            }
        }
        due("common multiple of all orbits", least, 1021020);
        due("orbits(1, 1)", x.orbits(1, 1), 1021020);
        due("orbits(1, 2)", x.orbits(1, 2), longest);
    }

    /**
     * One thing below all others: a heap is empty, or is thing 0 with some of 1 .. 7. A chain that flips 0
     * between 1, 2, .. 7 takes most of them to 0 with those of 1 .. 7 that were left (57 orbits of two). But
     * the empty heap and the heap of all change places, and those with just 1 .. k come to the ones without
     * 1 .. k + 1, which come to 1 .. k + 1: thirteen heaps one after the other, for k from 0 to 6.
     */
    private static void orbitsOfAStar() {
        sentence = "13: orbits of unlike lengths, of most heaps that hang together";
        FlipHeaps x = order(new int[] {1, 2, 3, 4, 5, 6, 7}, 0, 1, 0, 2, 0, 3, 0, 4, 0, 5, 0, 6, 0, 7, 0);
        due("many()", x.many(), 129);
        due("orbits(1, 0)", x.orbits(1, 0), 1 + 1 + 57);
        due("orbits(1, 1)", x.orbits(1, 1), 26);
        due("orbits(1, 2)", x.orbits(1, 2), 13);
        due("turn(0, 1, 1)", x.turn(0, 1, 1), 255);
        due("turn(255, 1, 1)", x.turn(255, 1, 1), 0);
        due("turn(1, 1, 1)", x.turn(1, 1, 1), 253);
        due("turn(253, 1, 1)", x.turn(253, 1, 1), 3);
        due("turn(127, 1, 1)", x.turn(127, 1, 1), 1);
        due("orbit(0, 1)", x.orbit(0, 1), 2);
        due("orbit(1, 1)", x.orbit(1, 1), 13);
        due("orbit(5, 1)", x.orbit(5, 1), 2);
        due("stays(1, 1)", x.stays(1, 1), 0);
        due("stays(1, 2)", x.stays(1, 2), 116);
        due("stays(1, 13)", x.stays(1, 13), 13);
        due("stays(1, 26)", x.stays(1, 26), 129);
    }

    // ---- measures

    private static void kindsOfMeasures() {
        sentence = "kinds of measures: 0 size, 1 weighed, 2 edged";
        FlipHeaps x = roof();
        weighAll(x, 4);
        due("measure(0, 3)", x.measure(0, 3), 2);
        due("measure(1, 3)", x.measure(1, 3), 2 + 8);
        due("measure(2, 3)", x.measure(2, 3), 2 + 8 + 2);
        due("mean(3, 1, 0, 0)", x.mean(3, 1, 0, 0), 2);
        due("mean(3, 1, 2, 0)", x.mean(3, 1, 2, 0), 12);
        due("even(0, 0)", x.even(0, 0), 0);
        due("even(0, 2)", x.even(0, 2), 0);
        for (int kind : new int[] {-1, 3, LEAST, GREATEST}) {
            due("measure(" + kind + ", 0)", x.measure(kind, 0), NO);
            due("mean(0, 0, " + kind + ", 0)", x.mean(0, 0, kind, 0), NO);
            due("even(0, " + kind + ")", x.even(0, kind), BAD);
        }
    }

    private static void measuresOfTheEmptyHeap() {
        sentence = "14: the empty heap has nothing to measure";
        for (int n = 1; n <= 8; n++) {
            FlipHeaps x = tower(n);
            weighAll(x, 9);
            for (int kind = 0; kind < 3; kind++) {
                due("measure(" + kind + ", 0) of " + n, x.measure(kind, 0), 0);
            }
        }
    }

    private static void measuresOfTheHeapOfAll() {
        sentence = "14: the heap of all, with the least and the greatest weights";
        for (int n = 1; n <= 8; n++) {
            int all = (1 << n) - 1;
            for (int v = -9; v <= 9; v += 9) {
                FlipHeaps x = tower(n);
                FlipHeaps y = free(n);
                weighAll(x, v);
                weighAll(y, v);
                due("measure(0, all) of a tower of " + n, x.measure(0, all), n);
                due("measure(1, all) of a tower of " + n, x.measure(1, all), n + n * v);
                // Of a tower only the top is below none; of free things all are.
                due("measure(2, all) of a tower of " + n, x.measure(2, all), n + n * v + 1);
                due("measure(2, all) of " + n + " free", y.measure(2, all), n + n * v + n);
            }
        }
        // 0 and 1 are below 2, but not while it is out.
        due("measure(2, 7) of a roof", roof().measure(2, 7), 3 + 1);
        due("measure(2, 3) of a roof", roof().measure(2, 3), 2 + 2);
    }

    private static void measureOfNoHeap() {
        sentence = "14: NO: BAD";
        FlipHeaps x = roof();
        for (int kind = 0; kind < 3; kind++) {
            for (int set : new int[] {4, 5, 6, 8, 256, -1, LEAST, GREATEST}) {
                due("measure(" + kind + ", " + set + ")", x.measure(kind, set), NO);
            }
        }
        due("trace()", x.trace(), 0);
    }

    private static void meanInLeastForm() {
        sentence = "15: the sum by how many they are, in least form";
        for (int n = 1; n <= 8; n++) {
            // 0 + 1 + .. + n by n + 1 is n by 2.
            FlipHeaps x = tower(n);
            due("mean(0, 0, 0, 0) of a tower of " + n, x.mean(0, 0, 0, 0), n % 2 == 0 ? n / 2 : n);
            due("mean(0, 0, 0, 1) of a tower of " + n, x.mean(0, 0, 0, 1), n % 2 == 0 ? 1 : 2);
            // Nothing by n + 1 is 0 by 1.
            weighAll(x, -1);
            due("mean(0, 0, 1, 0) of nothing", x.mean(0, 0, 1, 0), 0);
            due("mean(0, 0, 1, 1) of nothing", x.mean(0, 0, 1, 1), 1);
            // An orbit of one heap has a whole mean.
            due("mean(all, 1, 0, 0)", x.mean((1 << n) - 1, 1, 0, 0), n);
            due("mean(all, 1, 0, 1)", x.mean((1 << n) - 1, 1, 0, 1), 1);
        }
        FlipHeaps y = roof();
        due("mean(0, 0, 0, 0) of 5 by 3", y.mean(0, 0, 0, 0), 5);
        due("mean(0, 0, 0, 1) of 5 by 3", y.mean(0, 0, 0, 1), 3);
        due("mean(2, 0, 0, 0) of 2 by 2", y.mean(2, 0, 0, 0), 1);
        due("mean(2, 0, 0, 1) of 2 by 2", y.mean(2, 0, 0, 1), 1);
    }

    private static void meanBelowZero() {
        sentence = "15: a mean may be below 0, its lower part is not";
        FlipHeaps x = tower(1);
        x.weight(0, -9);
        due("mean(0, 0, 1, 0) of -8 by 2", x.mean(0, 0, 1, 0), -4);
        due("mean(0, 0, 1, 1) of -8 by 2", x.mean(0, 0, 1, 1), 1);
        x.weight(0, -2);
        due("mean(0, 0, 1, 0) of -1 by 2", x.mean(0, 0, 1, 0), -1);
        due("mean(0, 0, 1, 1) of -1 by 2", x.mean(0, 0, 1, 1), 2);
        FlipHeaps y = free(8);
        weighAll(y, -9);
        due("mean(255, 1, 2, 0) of -56", y.mean(255, 1, 2, 0), -56);
        due("mean(255, 1, 2, 1)", y.mean(255, 1, 2, 1), 1);
        weighAll(y, 9);
        due("mean(255, 1, 2, 0) of 88", y.mean(255, 1, 2, 0), 88);
    }

    private static void meanHasTwoParts() {
        sentence = "15: upper (part = 0), lower part (1). NO: BAD";
        FlipHeaps x = roof();
        for (int part : new int[] {-1, 2, LEAST, GREATEST}) {
            due("mean(0, 0, 0, " + part + ")", x.mean(0, 0, 0, part), NO);
        }
        for (int set : new int[] {4, 5, 6, 8, -1, LEAST, GREATEST}) {
            due("mean(" + set + ", 0, 0, 0)", x.mean(set, 0, 0, 0), NO);
            due("mean(" + set + ", 1, 0, 1)", x.mean(set, 1, 0, 1), NO);
        }
    }

    private static void evenOfOneOrbit() {
        sentence = "16: one orbit alone has one mean";
        for (int n = 1; n <= 8; n++) {
            FlipHeaps x = tower(n);
            x.weight(n - 1, 9);
            for (int measures = 0; measures < 3; measures++) {
                due("even(0, " + measures + ") of a tower of " + n, x.even(0, measures), 1);
            }
        }
    }

    private static void evenOfManyOrbits() {
        sentence = "16: whether all orbits have one mean";
        for (int n = 1; n <= 8; n++) {
            FlipHeaps x = free(n);
            due("even(0, 0) of " + n + " free", x.even(0, 0), 1);
            due("even(1, 0) of " + n + " free", x.even(1, 0), 0);
            weighAll(x, -1);
            due("even(1, 1) of nothing in all heaps", x.even(1, 1), 1);
            // Only the heaps with the last thing are unlike the rest.
            x.weight(n - 1, 0);
            due("even(1, 1) but for the last thing", x.even(1, 1), 0);
        }
        FlipHeaps y = roof();
        // 0 3 7 have 0 - 4 - 2 by 3, and 1 2 have - 2 - 2 by 2: one mean of unlike sums.
        y.weight(0, -3);
        y.weight(1, -3);
        y.weight(2, 1);
        due("even(0, 1) of unlike lengths", y.even(0, 1), 1);
        y.weight(2, 2);
        due("even(0, 1) off by one", y.even(0, 1), 0);
    }

    // ---- fillings

    private static void heightsAreOneToThree() {
        sentence = "17: h is 1 .. 3";
        for (int n = 1; n <= 8; n++) {
            FlipHeaps x = free(n);
            FlipHeaps y = tower(n);
            for (int h = 1; h <= 3; h++) {
                due("fillings(" + h + ") of " + n + " free", x.fillings(h), power(h + 1, n));
            }
            due("fillings(1) of a tower of " + n, y.fillings(1), n + 1);
            due("fillings(2) of a tower of " + n, y.fillings(2), (n + 1) * (n + 2) / 2);
            due("fillings(3) of a tower of " + n, y.fillings(3), (n + 1) * (n + 2) * (n + 3) / 6);
        }
        FlipHeaps z = roof();
        for (int h : new int[] {0, 4, -1, LEAST, GREATEST}) {
            due("fillings(" + h + ")", z.fillings(h), BAD);
            due("bend(" + h + ", 0, 0)", z.bend(h, 0, 0), BAD);
            due("round(" + h + ", 0, 0)", z.round(h, 0, 0), BAD);
            due("round(" + h + ", 0, 1)", z.round(h, 0, 1), BAD);
            due("period(" + h + ", 0, 0)", z.period(h, 0, 0), BAD);
            due("period(" + h + ", 0, 1)", z.period(h, 0, 1), BAD);
        }
    }

    private static void leastAndGreatestFilling() {
        sentence = "18: fillings are numbered by their digits";
        for (int n = 1; n <= 8; n++) {
            for (int h = 1; h <= 3; h++) {
                FlipHeaps x = tower(n);
                int beyond = power(h + 1, n);
                // All things with h are the greatest number; a top alone is never above its rest.
                due("bend(h, last, n - 1) of " + n + ", " + h, x.bend(h, beyond - 1, n - 1), beyond - 1 - h * beyond / (h + 1));
                due("round(h, last, 0) of " + n + ", " + h, x.round(h, beyond - 1, 0), 0);
                due("round(h, last, 1) of " + n + ", " + h, x.round(h, beyond - 1, 1), beyond - 1);
                due("period(h, last, 0) of " + n + ", " + h, x.period(h, beyond - 1, 0), n + 1);
                due("bend(h, 0, 0) of " + n + ", " + h, x.bend(h, 0, 0), h);
                due("round(h, 0, 0) of " + n + ", " + h, x.round(h, 0, 0), h);
                due("period(h, 0, 0) of " + n + ", " + h, x.period(h, 0, 0), n + 1);
                for (int filling : new int[] {beyond, beyond + 1, 2 * beyond, -1, -beyond, LEAST, GREATEST}) {
                    due("bend(" + h + ", " + filling + ", 0) of " + n, x.bend(h, filling, 0), BAD);
                    due("round(" + h + ", " + filling + ", 0) of " + n, x.round(h, filling, 0), BAD);
                    due("round(" + h + ", " + filling + ", 1) of " + n, x.round(h, filling, 1), BAD);
                    due("period(" + h + ", " + filling + ", 0) of " + n, x.period(h, filling, 0), BAD);
                    due("period(" + h + ", " + filling + ", 1) of " + n, x.period(h, filling, 1), BAD);
                }
            }
        }
    }

    private static void bendWithNoneBelowAndNoneAbove() {
        sentence = "18: A is h, if there are none below; B is 0, if there are none above";
        for (int h = 1; h <= 3; h++) {
            FlipHeaps x = free(8);
            int top = power(h + 1, 7);
            for (int number = 0; number <= h; number++) {
                due("bend(" + h + ", " + number + ", 0)", x.bend(h, number, 0), h - number);
                due("bend(" + h + ", " + number + " * top, 7)", x.bend(h, number * top, 7), (h - number) * top);
            }
            due("bend(" + h + ", 0, 8)", x.bend(h, 0, 8), BAD);
            due("bend(" + h + ", 0, -1)", x.bend(h, 0, -1), BAD);
            due("bend(" + h + ", 0, 32)", x.bend(h, 0, 32), BAD);
            due("bend(" + h + ", 0, LEAST)", x.bend(h, 0, LEAST), BAD);
            due("bend(" + h + ", 0, GREATEST)", x.bend(h, 0, GREATEST), BAD);
        }
        // Numbers 3, 2, 0 of a tower: 3 + 2 - 3, then 3 + 0 - 2, then 2 + 0 - 0.
        FlipHeaps y = tower(3);
        due("bend(3, 11, 0)", y.bend(3, 11, 0), 2 + 2 * 4);
        due("bend(3, 11, 1)", y.bend(3, 11, 1), 3 + 1 * 4);
        due("bend(3, 11, 2)", y.bend(3, 11, 2), 3 + 2 * 4 + 2 * 16);
        // The least of those below and the greatest of those above: 0 and 1 (3, 1) below 2 (0), 2 below 3, 4.
        FlipHeaps z = free(5);
        z.lay(0, 2);
        z.lay(1, 2);
        z.lay(2, 3);
        z.lay(2, 4);
        due("bend(3, 7, 2)", z.bend(3, 7, 2), 7 + 16);
        // Numbers 3, 3, 2, 0, 1: 2 becomes 3 + 1 - 2.
        due("bend(3, 303, 2)", z.bend(3, 3 + 12 + 32 + 256, 2), 3 + 12 + 32 + 256);
        // Numbers 3, 3, 3, 0, 1: 3 becomes 3 + 1 - 3.
        due("bend(3, 319, 2)", z.bend(3, 3 + 12 + 48 + 256, 2), 3 + 12 + 16 + 256);
    }

    private static void bendOfNoFilling() {
        sentence = "18: BAD: it is none";
        FlipHeaps x = tower(2);
        for (int h = 1; h <= 3; h++) {
            for (int low = 0; low <= h; low++) {
                for (int high = 0; high <= h; high++) {
                    int filling = low + high * (h + 1);
                    // A lower thing's number is no less than that of one above it.
                    boolean none = low < high;
                    String asked = "(" + h + ", " + filling + ", ..)";
                    due("bend" + asked, x.bend(h, filling, 1), none ? BAD : low + (low - high) * (h + 1));
                    due("round" + asked, x.round(h, filling, 1), none ? BAD : filling);
                    due("period" + asked, x.period(h, filling, 1), none ? BAD : 1);
                }
            }
        }
    }

    private static void roundGoesFromTheGreatestDown() {
        sentence = "19: a turn flips all things from the greatest down to 0";
        for (int n = 1; n <= 8; n++) {
            for (int h = 1; h <= 3; h++) {
                due("round(h, 0, 0) of " + n + " free, " + h, free(n).round(h, 0, 0), power(h + 1, n) - 1);
                // From 0 up each thing would let the next one in: all of them.
                FlipHeaps x = tower(n);
                due("round(h, 0, 0) of a tower of " + n + ", " + h, x.round(h, 0, 0), h);
                for (int k = 0; k < n; k++) {
                    x.say(k);
                }
                due("round(h, 0, 1) from 0 up", x.round(h, 0, 1), power(h + 1, n) - 1);
            }
        }
        FlipHeaps y = roof();
        for (int set = 0; set < 8; set++) {
            due("round(1, " + set + ", 0) is a turn", y.round(1, set, 0), y.turn(set, 0, 1));
        }
    }

    private static void roundByTheChain() {
        sentence = "19: or the chain";
        FlipHeaps x = tower(8);
        sayAll(x, 7, 6, 5, 4, 3, 2, 1, 0);
        for (int h = 1; h <= 3; h++) {
            due("round(" + h + ", 0, 1)", x.round(h, 0, 1), x.round(h, 0, 0));
            due("period(" + h + ", 0, 1)", x.period(h, 0, 1), 9);
        }
        sayAll(x, 7, 6, 5, 4, 3, 2, 1, 0);
        for (int h = 1; h <= 3; h++) {
            due("round(" + h + ", 0, 1) by sixteen", x.round(h, 0, 1), h + h * (h + 1));
        }
    }

    private static void periodUpToThousand() {
        sentence = "20: up to 1000; NONE beyond";
        FlipHeaps just = order(new int[] {24, 12, 16, 37, 56, 3, 6}, 1, 6, 2, 0, 3, 6, 5, 7, 6);
        due("a period of 1000", just.period(3, 1391, 1), 1000);
        due("a period of 1001", longTurning().period(3, 1214, 1), NONE);
        due("rounds of 1001", roundsTillBack(1214), 1001);
        due("a period of 1", new FlipHeaps().period(3, 63, 1), 1);
    }

    private static FlipHeaps longTurning() {
        return order(new int[] {17, 4, 23, 57, 3, 14, 27}, 3, 7, 5, 0, 1, 3, 2, 4, 0);
    }

    private static int roundsTillBack(int start) {
        FlipHeaps x = longTurning();
        int filling = start;
        for (int turns = 1; turns <= 2000; turns++) {
            // Nothing is promised of an object beyond 512 calls.
            if (turns % 400 == 0) {
                x = longTurning();
            }
            filling = x.round(3, filling, 1);
            if (filling == start) {
                return turns;
            }
        }
        return BAD;
    }

    // ---- counts

    private static void countsAreNoneToAll() {
        sentence = "21: counts by size k (0 .. n)";
        for (int n = 1; n <= 8; n++) {
            FlipHeaps x = tower(n);
            FlipHeaps y = free(n);
            int ways = 1;
            for (int k = 0; k <= n; k++) {
                due("counts(" + k + ") of a tower of " + n, x.counts(k), 1);
                due("counts(" + k + ") of " + n + " free", y.counts(k), ways);
                ways = ways * (n - k) / (k + 1);
            }
            for (int k : new int[] {-1, n + 1, LEAST, GREATEST}) {
                due("counts(" + k + ") of " + n, x.counts(k), BAD);
            }
        }
    }

    private static void rootsAreFive() {
        sentence = "22: d is 1, 2, 3, 4, 6. NO - 1: BAD";
        for (int n = 1; n <= 8; n++) {
            // 1 + 1 w + 1 w w + ..: whole at each d when all roots are gone through just once.
            FlipHeaps x = tower(n);
            due("at(1) of " + n, x.at(1), n + 1);
            for (int d : new int[] {0, -1, 5, 7, 8, 9, 10, 12, -2, -6, 257, LEAST, LEAST + 1, GREATEST}) {
                due("at(" + d + ") of " + n, x.at(d), NO - 1);
            }
        }
    }

    private static void rootsOfTowers() {
        sentence = "22: that sum, if it is a whole number; else NO";
        for (int n = 1; n <= 8; n++) {
            for (int d : new int[] {2, 3, 4, 6}) {
                // Full rounds of roots are nothing; one more is 1; any other rest is no whole number.
                int rest = (n + 1) % d;
                due("at(" + d + ") of a tower of " + n, tower(n).at(d), rest == 0 ? 0 : rest == 1 ? 1 : NO);
            }
        }
    }

    private static void rootsOfFreeThings() {
        sentence = "22: the sum may be below 0";
        // (1 + w)^n: 1 + w is a sixth root for 3, and of length root 2 and root 3 for 4 and 6.
        int[] third = {NO, NO, -1, NO, NO, 1, NO, NO};
        int[] fourth = {NO, NO, NO, -4, NO, NO, NO, 16};
        int[] sixth = {NO, NO, NO, NO, NO, -27, NO, NO};
        for (int n = 1; n <= 8; n++) {
            FlipHeaps x = free(n);
            due("at(1) of " + n, x.at(1), 1 << n);
            due("at(2) of " + n, x.at(2), 0);
            due("at(3) of " + n, x.at(3), third[n - 1]);
            due("at(4) of " + n, x.at(4), fourth[n - 1]);
            due("at(6) of " + n, x.at(6), sixth[n - 1]);
        }
    }

    private static void staysBehindNoneToThousand() {
        sentence = "23: stays j (0 .. 1000)";
        FlipHeaps x = tower(8);
        due("stays(0, 0)", x.stays(0, 0), 9);
        due("stays(0, 1)", x.stays(0, 1), 0);
        due("stays(0, 9)", x.stays(0, 9), 9);
        due("stays(0, 999)", x.stays(0, 999), 9);
        due("stays(0, 1000)", x.stays(0, 1000), 0);
        x.say(0);
        due("stays(1, 0)", x.stays(1, 0), 9);
        due("stays(1, 999)", x.stays(1, 999), 7);
        due("stays(1, 1000)", x.stays(1, 1000), 9);
        for (int j : new int[] {-1, 1001, LEAST, GREATEST}) {
            due("stays(0, " + j + ")", x.stays(0, j), BAD);
            due("stays(1, " + j + ")", x.stays(1, j), BAD);
        }
        due("stays(0, 1000) of 256", free(8).stays(0, 1000), 256);
        due("stays(0, 999) of 256", free(8).stays(0, 999), 0);
    }

    private static void countsOfWhat() {
        sentence = "24: 0 things, 1 how many of the chain, 2 pairs";
        for (int n = 1; n <= 8; n++) {
            FlipHeaps x = tower(n);
            due("count(0) of " + n, x.count(0), n);
            due("count(1) of " + n, x.count(1), 0);
            due("count(2) of a tower of " + n, x.count(2), n * (n - 1) / 2);
            due("count(2) of " + n + " free", free(n).count(2), 0);
            for (int what : new int[] {-1, 3, LEAST, GREATEST}) {
                due("count(" + what + ") of " + n, x.count(what), BAD);
            }
        }
    }

    private static void traceOfMeasures() {
        sentence = "25: numbers come to the trace as often as measure() asks";
        FlipHeaps x = roof();
        int[] due = {1, 11, 111};
        long sum = 0;
        for (int kind = 0; kind < 3; kind++) {
            for (int heap : new int[] {0, 7}) {
                x.measure(kind, heap);
                sum += due[kind];
                due("trace() behind measure(" + kind + ", " + heap + ")", x.trace(), sum);
            }
        }
        x.measure(3, 0);
        x.measure(-1, 0);
        x.measure(0, 4);
        x.measure(0, 8);
        due("trace() behind NO", x.trace(), sum);
        due("trace() asked again", x.trace(), sum);
    }

    // ---- refusals

    private static void badComesBeforeFull() {
        sentence = "the first of these: BAD, STATE, FULL";
        FlipHeaps x = free(8);
        for (int k = 0; k < 16; k++) {
            x.say(k % 8);
        }
        for (int thing : new int[] {-1, 8, 32, LEAST, GREATEST}) {
            due("say(" + thing + ") of a full chain", x.say(thing), BAD);
        }
        due("say(0) of a full chain", x.say(0), FULL);
        due("say(7) of a full chain", x.say(7), FULL);
        x.hush();
        due("say(8) of an empty chain", x.say(8), BAD);
        due("say(7) of an empty chain", x.say(7), 1);
    }

    private static void fiveHundredAndTwelveCalls() {
        sentence = "an object is used for at most 512 calls";
        FlipHeaps x = new FlipHeaps();
        x.things(8);
        for (int call = 0; call < 510; call++) {
            due("measure(2, 255), the " + call + "th", x.measure(2, 255), 16);
        }
        due("trace(), the 512th call", x.trace(), 510 * 111);
        FlipHeaps y = new FlipHeaps();
        for (int call = 0; call < 511; call++) {
            due("things, the " + call + "th", y.things(call % 8 + 1), call == 0 ? 3 : (call + 7) % 8 + 1);
        }
        due("count(0), the 512th call", y.count(0), 7);
    }
}
