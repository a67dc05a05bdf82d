/**
 * For each promise of the document: ordinary inputs, its edges and wrong inputs, worked out by hand;
 * only the long periods and great orders were found by a search, and checked by a program of its own.
 */
public final class PromisesTest {
    private static final int BAD = -1;
    private static final int FULL = -3;
    private static final int NONE = -9;
    private static final int NO = -1000000;
    private static final int LEAST = Integer.MIN_VALUE;
    private static final int GREATEST = Integer.MAX_VALUE;
    private static int wrong = 0;
    private static int promise = 0;

    public static void main(String[] args) {
        newObject();
        things();
        lay();
        below();
        weight();
        say();
        hush();
        heap();
        many();
        flip();
        turn();
        orbit();
        orbits();
        measure();
        mean();
        even();
        fillings();
        bend();
        round();
        period();
        counts();
        at();
        stays();
        count();
        trace();
        refusalsChangeNothing();
        exampleOfTheReadme();
        System.out.println(wrong == 0 ? "PromisesTest: all answers are as due" : "PromisesTest: " + wrong + " answers are not as due");
        if (wrong != 0) {
            System.exit(1);
        }
    }

    private static void due(String call, long got, long want) {
        if (got != want) {
            wrong++;
            System.out.println("promise " + promise + ": " + call + " answered " + got + ", due is " + want);
        }
    }

    /** 0 and 1 below 2: heaps 0, 1, 2, 3, 7; rounds 0 3 7 and 1 2. */
    private static FlipHeaps roof() {
        FlipHeaps x = new FlipHeaps();
        x.lay(0, 2);
        x.lay(1, 2);
        return x;
    }

    /** 0 below 1 below 2 ..: a heap for each size. */
    private static FlipHeaps tower(int n) {
        FlipHeaps x = new FlipHeaps();
        x.things(n);
        for (int k = 1; k < n; k++) {
            x.lay(k - 1, k);
        }
        return x;
    }

    private static FlipHeaps order(int n, int[] pairs, int... chain) {
        FlipHeaps x = new FlipHeaps();
        x.things(n);
        for (int pair : pairs) {
            x.lay(pair / 10, pair % 10);
        }
        for (int thing : chain) {
            x.say(thing);
        }
        return x;
    }

    private static void newObject() {
        promise = 1;
        FlipHeaps x = new FlipHeaps();
        due("count(0)", x.count(0), 3);
        due("count(1)", x.count(1), 0);
        due("count(2)", x.count(2), 0);
        due("many()", x.many(), 8);
        due("trace()", x.trace(), 0);
        due("orbit(5, 1) of an empty chain", x.orbit(5, 1), 1);
        for (int k = 0; k < 3; k++) {
            due("weight of " + k, x.weight(k, 0), 0);
        }
        FlipHeaps other = new FlipHeaps();
        other.lay(0, 1);
        due("many() beside another object", x.many(), 8);
    }

    private static void things() {
        promise = 2;
        FlipHeaps x = roof();
        x.say(1);
        x.weight(0, 5);
        x.measure(0, 0);
        for (int n : new int[] {0, 9, -1, LEAST, GREATEST}) {
            due("things(" + n + ")", x.things(n), BAD);
        }
        due("count(0) behind BAD", x.count(0), 3);
        due("count(2) behind BAD", x.count(2), 2);
        due("things(3)", x.things(3), 3);
        due("count(1)", x.count(1), 0);
        due("count(2)", x.count(2), 0);
        due("weight(0, 0)", x.weight(0, 0), 0);
        due("flip(0, 2)", x.flip(0, 2), 4);
        due("flip(5, 0)", x.flip(5, 0), 4);
        due("trace() is not set back", x.trace(), 1);
        due("things(8)", x.things(8), 3);
        due("lay(6, 7)", x.lay(6, 7), 1);
        x.weight(7, 9);
        due("things(1)", x.things(1), 8);
        due("lay(0, 1)", x.lay(0, 1), BAD);
        due("many()", x.many(), 2);
        due("things(8) again", x.things(8), 1);
        due("below(6, 7)", x.below(6, 7), 0);
        due("weight(7, 0)", x.weight(7, 0), 0);
    }

    private static void lay() {
        promise = 3;
        FlipHeaps x = new FlipHeaps();
        x.things(6);
        due("lay(0, 1)", x.lay(0, 1), 1);
        due("lay(0, 1) again", x.lay(0, 1), 0);
        due("lay(4, 5)", x.lay(4, 5), 1);
        due("lay(1, 4)", x.lay(1, 4), 1);
        due("below(0, 5)", x.below(0, 5), 1);
        due("below(0, 4)", x.below(0, 4), 1);
        due("below(1, 5)", x.below(1, 5), 1);
        due("lay(0, 5) follows from others", x.lay(0, 5), 0);
        due("below(2, 5)", x.below(2, 5), 0);
        due("count(2)", x.count(2), 6);
        due("flip(17, 1)", x.flip(17, 1), BAD);
        due("lay(1, 0)", x.lay(1, 0), BAD);
        due("lay(5, 4)", x.lay(5, 4), BAD);
        due("lay(2, 2)", x.lay(2, 2), BAD);
        due("lay(-1, 2)", x.lay(-1, 2), BAD);
        due("lay(0, 6)", x.lay(0, 6), BAD);
        due("lay(LEAST, GREATEST)", x.lay(LEAST, GREATEST), BAD);
        due("count(2) behind BAD", x.count(2), 6);
    }

    private static void below() {
        promise = 4;
        FlipHeaps x = tower(4);
        due("below(0, 3)", x.below(0, 3), 1);
        due("below(3, 0)", x.below(3, 0), 0);
        due("below(2, 2)", x.below(2, 2), 0);
        due("below(0, 4)", x.below(0, 4), BAD);
        due("below(4, 0)", x.below(4, 0), BAD);
        due("below(-1, 0)", x.below(-1, 0), BAD);
        due("below(0, -1)", x.below(0, -1), BAD);
        due("below(GREATEST, LEAST)", x.below(GREATEST, LEAST), BAD);
        due("below(0, 1) of a new object", new FlipHeaps().below(0, 1), 0);
    }

    private static void weight() {
        promise = 5;
        FlipHeaps x = new FlipHeaps();
        due("weight(0, 9)", x.weight(0, 9), 0);
        due("weight(0, -9)", x.weight(0, -9), 9);
        due("weight(0, 10)", x.weight(0, 10), NO);
        due("weight(0, -10)", x.weight(0, -10), NO);
        due("weight(3, 0)", x.weight(3, 0), NO);
        due("weight(-1, 0)", x.weight(-1, 0), NO);
        due("weight(LEAST, LEAST)", x.weight(LEAST, LEAST), NO);
        due("weight(0, 1)", x.weight(0, 1), -9);
        due("weight(2, 1)", x.weight(2, 1), 0);
    }

    private static void say() {
        promise = 6;
        FlipHeaps x = new FlipHeaps();
        due("say(3)", x.say(3), BAD);
        due("say(-1)", x.say(-1), BAD);
        for (int k = 1; k <= 16; k++) {
            due("say(2)", x.say(2), k);
        }
        due("say(0) of a full chain", x.say(0), FULL);
        due("say(3) of a full chain", x.say(3), BAD);
        due("count(1)", x.count(1), 16);
        due("turn(0, 1, 1)", x.turn(0, 1, 1), 0);
    }

    private static void hush() {
        promise = 7;
        FlipHeaps x = new FlipHeaps();
        due("hush()", x.hush(), 0);
        x.say(1);
        x.say(2);
        due("hush()", x.hush(), 2);
        due("count(1)", x.count(1), 0);
        due("turn(0, 1, 1)", x.turn(0, 1, 1), 0);
        due("say(0)", x.say(0), 1);
        due("turn(0, 1, 1)", x.turn(0, 1, 1), 1);
    }

    private static void heap() {
        promise = 8;
        FlipHeaps x = roof();
        int[] due = {1, 1, 1, 1, 0, 0, 0, 1};
        for (int set = 0; set < 8; set++) {
            due("heap(" + set + ")", x.heap(set), due[set]);
        }
        for (int set : new int[] {8, 16, 256, -1, LEAST, GREATEST}) {
            due("heap(" + set + ")", x.heap(set), BAD);
        }
        x.things(8);
        due("heap(255)", x.heap(255), 1);
        due("heap(256)", x.heap(256), BAD);
    }

    private static void many() {
        promise = 9;
        due("many() of a roof", roof().many(), 5);
        due("many() of a tower", tower(8).many(), 9);
        FlipHeaps x = new FlipHeaps();
        x.things(8);
        due("many() of 8", x.many(), 256);
        x.things(1);
        due("many() of 1", x.many(), 2);
    }

    private static void flip() {
        promise = 10;
        FlipHeaps x = roof();
        due("flip(0, 0)", x.flip(0, 0), 1);
        due("flip(0, 2) cannot come in", x.flip(0, 2), 0);
        due("flip(1, 2) cannot come in", x.flip(1, 2), 1);
        due("flip(3, 2)", x.flip(3, 2), 7);
        due("flip(7, 2)", x.flip(7, 2), 3);
        due("flip(7, 0) cannot go out", x.flip(7, 0), 7);
        due("flip(3, 0)", x.flip(3, 0), 2);
        due("flip(4, 2) of no heap", x.flip(4, 2), BAD);
        due("flip(5, 1) of no heap", x.flip(5, 1), BAD);
        due("flip(8, 0)", x.flip(8, 0), BAD);
        due("flip(-1, 0)", x.flip(-1, 0), BAD);
        due("flip(0, 3)", x.flip(0, 3), BAD);
        due("flip(0, -1)", x.flip(0, -1), BAD);
        due("flip(0, 32)", x.flip(0, 32), BAD);
    }

    private static void turn() {
        promise = 11;
        FlipHeaps x = roof();
        int[] next = {3, 2, 1, 7, BAD, BAD, BAD, 0, BAD};
        for (int set = 0; set < next.length; set++) {
            due("turn(" + set + ", 0, 1)", x.turn(set, 0, 1), next[set]);
        }
        due("turn(3, 0, 0)", x.turn(3, 0, 0), 3);
        due("turn(4, 0, 0)", x.turn(4, 0, 0), BAD);
        due("turn(0, 0, 2)", x.turn(0, 0, 2), 7);
        due("turn(0, 0, 1000)", x.turn(0, 0, 1000), 3);
        due("turn(0, 0, 1001)", x.turn(0, 0, 1001), BAD);
        due("turn(0, 0, -1)", x.turn(0, 0, -1), BAD);
        due("turn(0, 2, 1)", x.turn(0, 2, 1), BAD);
        due("turn(0, -1, 0)", x.turn(0, -1, 0), BAD);
        due("turn(0, 1, 1000) of an empty chain", x.turn(0, 1, 1000), 0);
        x.say(2);
        x.say(0);
        x.say(1);
        due("turn(0, 1, 1)", x.turn(0, 1, 1), 3);
        due("turn(3, 1, 1)", x.turn(3, 1, 1), 7);
        due("turn(7, 1, 1)", x.turn(7, 1, 1), 0);
        x.hush();
        x.say(0);
        x.say(1);
        x.say(2);
        due("turn(0, 1, 1) in the other way", x.turn(0, 1, 1), 7);
        due("turn(7, 1, 1) in the other way", x.turn(7, 1, 1), 3);
    }

    private static void orbit() {
        promise = 12;
        FlipHeaps x = roof();
        due("orbit(0, 0)", x.orbit(0, 0), 3);
        due("orbit(7, 0)", x.orbit(7, 0), 3);
        due("orbit(1, 0)", x.orbit(1, 0), 2);
        due("orbit(2, 1)", x.orbit(2, 1), 1);
        x.say(0);
        due("orbit(0, 1)", x.orbit(0, 1), 2);
        due("orbit(7, 1)", x.orbit(7, 1), 1);
        due("orbit(4, 0)", x.orbit(4, 0), BAD);
        due("orbit(8, 0)", x.orbit(8, 0), BAD);
        due("orbit(-1, 0)", x.orbit(-1, 0), BAD);
        due("orbit(0, 2)", x.orbit(0, 2), BAD);
        due("orbit(0, -1)", x.orbit(0, -1), BAD);
        due("orbit(0, 0) of a tower", tower(8).orbit(0, 0), 9);
    }

    private static void orbits() {
        promise = 13;
        FlipHeaps x = roof();
        due("orbits(0, 0)", x.orbits(0, 0), 2);
        due("orbits(0, 1)", x.orbits(0, 1), 6);
        due("orbits(0, 2)", x.orbits(0, 2), 3);
        due("orbits(1, 0)", x.orbits(1, 0), 5);
        due("orbits(1, 1)", x.orbits(1, 1), 1);
        due("orbits(1, 2)", x.orbits(1, 2), 1);
        x.say(0);
        due("orbits(1, 0) by 0", x.orbits(1, 0), 3);
        due("orbits(1, 1) by 0", x.orbits(1, 1), 2);
        due("orbits(2, 0)", x.orbits(2, 0), BAD);
        due("orbits(-1, 0)", x.orbits(-1, 0), BAD);
        due("orbits(0, 3)", x.orbits(0, 3), BAD);
        due("orbits(0, -1)", x.orbits(0, -1), BAD);
        FlipHeaps free = new FlipHeaps();
        free.things(8);
        due("orbits(1, 0) of 256", free.orbits(1, 0), 256);
        due("orbits(1, 1) of 256", free.orbits(1, 1), 1);
        due("orbits(1, 2) of 256", free.orbits(1, 2), 1);
        // 2 * 2 * 3 * 3 * 5 * 7 * 11 * 13; EdgesTest says why none is above 1000000000.
        FlipHeaps great = order(8, new int[] {12, 13, 14, 46, 56, 5, 7}, 5, 1, 6, 0, 2, 1, 4, 1, 6, 3);
        due("orbits(1, 1) of a great order", great.orbits(1, 1), 180180);
    }

    private static void measure() {
        promise = 14;
        FlipHeaps x = roof();
        x.weight(0, 4);
        x.weight(1, -9);
        x.weight(2, 7);
        int[][] due = {{0, 1, 1, 2, NO, NO, NO, 3, NO}, {0, 5, -8, -3, NO, NO, NO, 5, NO}, {0, 6, -7, -1, NO, NO, NO, 6, NO}};
        for (int kind = 0; kind < 3; kind++) {
            for (int set = 0; set < 9; set++) {
                due("measure(" + kind + ", " + set + ")", x.measure(kind, set), due[kind][set]);
            }
        }
        due("measure(3, 0)", x.measure(3, 0), NO);
        due("measure(-1, 0)", x.measure(-1, 0), NO);
        due("measure(0, -1)", x.measure(0, -1), NO);
        FlipHeaps y = tower(8);
        for (int k = 0; k < 8; k++) {
            y.weight(k, -9);
        }
        due("measure(2, 255)", y.measure(2, 255), 8 - 72 + 1);
    }

    private static void mean() {
        promise = 15;
        FlipHeaps x = roof();
        due("mean(0, 0, 0, 0)", x.mean(0, 0, 0, 0), 5);
        due("mean(0, 0, 0, 1)", x.mean(0, 0, 0, 1), 3);
        due("mean(7, 0, 2, 0)", x.mean(7, 0, 2, 0), 8);
        due("mean(7, 0, 2, 1)", x.mean(7, 0, 2, 1), 3);
        due("mean(1, 0, 0, 0)", x.mean(1, 0, 0, 0), 1);
        due("mean(1, 0, 0, 1)", x.mean(1, 0, 0, 1), 1);
        x.weight(0, -6);
        due("mean(0, 0, 1, 0) below 0", x.mean(0, 0, 1, 0), -7);
        due("mean(0, 0, 1, 1) below 0", x.mean(0, 0, 1, 1), 3);
        due("mean(1, 0, 1, 0)", x.mean(1, 0, 1, 0), -2);
        due("mean(1, 0, 1, 1)", x.mean(1, 0, 1, 1), 1);
        x.weight(0, -2);
        due("mean(1, 0, 1, 0) of 0", x.mean(1, 0, 1, 0), 0);
        due("mean(1, 0, 1, 1) of 0", x.mean(1, 0, 1, 1), 1);
        due("mean(3, 1, 0, 0)", x.mean(3, 1, 0, 0), 2);
        due("mean(4, 0, 0, 0)", x.mean(4, 0, 0, 0), NO);
        due("mean(8, 0, 0, 0)", x.mean(8, 0, 0, 0), NO);
        due("mean(-1, 0, 0, 0)", x.mean(-1, 0, 0, 0), NO);
        due("mean(0, 2, 0, 0)", x.mean(0, 2, 0, 0), NO);
        due("mean(0, -1, 0, 0)", x.mean(0, -1, 0, 0), NO);
        due("mean(0, 0, 3, 0)", x.mean(0, 0, 3, 0), NO);
        due("mean(0, 0, -1, 0)", x.mean(0, 0, -1, 0), NO);
        due("mean(0, 0, 0, 2)", x.mean(0, 0, 0, 2), NO);
        due("mean(0, 0, 0, -1)", x.mean(0, 0, 0, -1), NO);
        due("trace() behind means", x.trace(), 0);
    }

    private static void even() {
        promise = 16;
        FlipHeaps x = roof();
        due("even(0, 0)", x.even(0, 0), 0);
        due("even(0, 2)", x.even(0, 2), 0);
        // Weights of -1 undo the sizes, so that every heap has 0.
        x.weight(0, -1);
        x.weight(1, -1);
        x.weight(2, -1);
        due("even(0, 1) of all 0", x.even(0, 1), 1);
        due("even(0, 0) with weights", x.even(0, 0), 0);
        // 0 3 7 have 0 - 4 - 2 by 3, and 1 2 have - 2 - 2 by 2: one mean of unlike sums.
        x.weight(0, -3);
        x.weight(1, -3);
        x.weight(2, 1);
        due("even(0, 1) of unlike lengths", x.even(0, 1), 1);
        x.weight(2, 0);
        due("even(0, 1)", x.even(0, 1), 0);
        due("even(1, 0) of an empty chain", x.even(1, 0), 0);
        due("even(0, 0) of a new object", new FlipHeaps().even(0, 0), 1);
        due("even(0, 0) of a tower", tower(5).even(0, 0), 1);
        due("even(2, 0)", x.even(2, 0), BAD);
        due("even(-1, 0)", x.even(-1, 0), BAD);
        due("even(0, 3)", x.even(0, 3), BAD);
        due("even(0, -1)", x.even(0, -1), BAD);
        due("trace() behind evens", x.trace(), 0);
        FlipHeaps all = new FlipHeaps();
        all.things(8);
        for (int k = 0; k < 8; k++) {
            all.weight(k, -1);
        }
        due("even(1, 1) of 256 orbits", all.even(1, 1), 1);
        FlipHeaps one = new FlipHeaps();
        one.things(1);
        one.say(0);
        due("even(1, 0) of one thing", one.even(1, 0), 1);
    }

    private static void fillings() {
        promise = 17;
        FlipHeaps x = roof();
        due("fillings(1)", x.fillings(1), 5);
        // With 2 at number t, 0 and 1 are each free among t .. h.
        due("fillings(2)", x.fillings(2), 9 + 4 + 1);
        due("fillings(3)", x.fillings(3), 16 + 9 + 4 + 1);
        due("fillings(0)", x.fillings(0), BAD);
        due("fillings(4)", x.fillings(4), BAD);
        due("fillings(LEAST)", x.fillings(LEAST), BAD);
        x.things(8);
        due("fillings(3) of 8", x.fillings(3), 65536);
        due("fillings(3) of a tower", tower(8).fillings(3), 165);
        x.things(1);
        due("fillings(3) of 1", x.fillings(3), 4);
    }

    private static void bend() {
        promise = 18;
        FlipHeaps x = roof();
        // The THINGS 0, 1, 2 have the numbers 3, 2, 1.
        int filling = 3 + 2 * 4 + 16;
        due("bend(3, 27, 0)", x.bend(3, filling, 0), 1 + 2 * 4 + 16);
        due("bend(3, 27, 1)", x.bend(3, filling, 1), filling);
        due("bend(3, 27, 2)", x.bend(3, filling, 2), filling);
        due("bend(3, 15, 2)", x.bend(3, 15, 2), 63);
        due("bend(2, 0, 0)", x.bend(2, 0, 0), 2);
        due("bend(2, 0, 2)", x.bend(2, 0, 2), 0);
        due("bend(2, 9, 0) of no filling", x.bend(2, 9, 0), BAD);
        due("bend(2, 10, 0) of no filling", x.bend(2, 10, 0), BAD);
        due("bend(2, 26, 0)", x.bend(2, 26, 0), 26);
        due("bend(2, 27, 0)", x.bend(2, 27, 0), BAD);
        due("bend(2, -1, 0)", x.bend(2, -1, 0), BAD);
        due("bend(2, GREATEST, 0)", x.bend(2, GREATEST, 0), BAD);
        due("bend(2, LEAST, 0)", x.bend(2, LEAST, 0), BAD);
        due("bend(0, 0, 0)", x.bend(0, 0, 0), BAD);
        due("bend(-1, 0, 0)", x.bend(-1, 0, 0), BAD);
        due("bend(4, 0, 0)", x.bend(4, 0, 0), BAD);
        due("bend(2, 0, 3)", x.bend(2, 0, 3), BAD);
        due("bend(2, 0, -1)", x.bend(2, 0, -1), BAD);
        for (int set = 0; set < 8; set++) {
            for (int thing = 0; thing < 3; thing++) {
                due("bend(1, " + set + ", " + thing + ") is a flip", x.bend(1, set, thing), x.flip(set, thing));
            }
        }
    }

    private static void round() {
        promise = 19;
        FlipHeaps x = roof();
        due("round(2, 0, 0)", x.round(2, 0, 0), 2 + 2 * 3);
        due("round(2, 8, 0)", x.round(2, 8, 0), 26);
        due("round(2, 26, 0)", x.round(2, 26, 0), 0);
        // Numbers 2, 1, 0: 2 becomes 1, then 1 becomes 2 + 1 - 1, then 0 becomes 2 + 1 - 2.
        due("round(2, 5, 0)", x.round(2, 5, 0), 1 + 2 * 3 + 9);
        due("round(2, 5, 1) of an empty chain", x.round(2, 5, 1), 5);
        x.say(0);
        x.say(2);
        // 0 becomes 2 + 0 - 2, then 2 becomes 0 + 0 - 0.
        due("round(2, 5, 1)", x.round(2, 5, 1), 3);
        x.hush();
        x.say(2);
        x.say(0);
        due("round(2, 5, 1) in the other way", x.round(2, 5, 1), 1 + 3 + 9);
        due("round(2, 9, 0) of no filling", x.round(2, 9, 0), BAD);
        due("round(2, 27, 0)", x.round(2, 27, 0), BAD);
        due("round(2, -1, 0)", x.round(2, -1, 0), BAD);
        due("round(0, 0, 0)", x.round(0, 0, 0), BAD);
        due("round(4, 0, 0)", x.round(4, 0, 0), BAD);
        due("round(1, 0, 2)", x.round(1, 0, 2), BAD);
        due("round(1, 0, -1)", x.round(1, 0, -1), BAD);
        for (int set = 0; set < 8; set++) {
            due("round(1, " + set + ", 0) is a turn", x.round(1, set, 0), x.turn(set, 0, 1));
        }
    }

    private static void period() {
        promise = 20;
        FlipHeaps x = roof();
        due("period(2, 0, 0)", x.period(2, 0, 0), 3);
        due("period(1, 1, 0)", x.period(1, 1, 0), 2);
        due("period(2, 0, 1)", x.period(2, 0, 1), 1);
        due("period(2, 9, 0) of no filling", x.period(2, 9, 0), BAD);
        due("period(2, 27, 0)", x.period(2, 27, 0), BAD);
        due("period(2, -1, 0)", x.period(2, -1, 0), BAD);
        due("period(0, 0, 0)", x.period(0, 0, 0), BAD);
        due("period(4, 0, 0)", x.period(4, 0, 0), BAD);
        due("period(2, 0, 2)", x.period(2, 0, 2), BAD);
        due("period(2, 0, -1)", x.period(2, 0, -1), BAD);
        due("period(3, 0, 0) of a tower", tower(8).period(3, 0, 0), 9);
        FlipHeaps just = order(8, new int[] {24, 12, 16, 37, 56, 3, 6}, 1, 6, 2, 0, 3, 6, 5, 7, 6);
        due("a period of 1000", just.period(3, 1391, 1), 1000);
        due("a period of 1001", longTurning().period(3, 1214, 1), NONE);
        FlipHeaps beyond = null;
        int filling = 1214;
        for (int turns = 0; turns < 1001; turns++) {
            // Nothing is promised of an object beyond 512 calls.
            if (turns % 400 == 0) {
                beyond = longTurning();
            }
            filling = beyond.round(3, filling, 1);
        }
        due("1001 rounds", filling, 1214);
    }

    private static FlipHeaps longTurning() {
        return order(8, new int[] {17, 4, 23, 57, 3, 14, 27}, 3, 7, 5, 0, 1, 3, 2, 4, 0);
    }

    private static void counts() {
        promise = 21;
        FlipHeaps x = roof();
        int[] due = {1, 2, 1, 1, BAD};
        for (int k = 0; k < due.length; k++) {
            due("counts(" + k + ")", x.counts(k), due[k]);
        }
        due("counts(-1)", x.counts(-1), BAD);
        due("counts(GREATEST)", x.counts(GREATEST), BAD);
        x.things(8);
        int[] row = {1, 8, 28, 56, 70, 56, 28, 8, 1, BAD};
        for (int k = 0; k < row.length; k++) {
            due("counts(" + k + ") of 8", x.counts(k), row[k]);
        }
        x.things(1);
        due("counts(1) of 1", x.counts(1), 1);
        due("counts(2) of 1", x.counts(2), BAD);
    }

    private static void at() {
        promise = 22;
        FlipHeaps x = roof();
        // 1 + 2 w + w w + w w w
        due("at(1)", x.at(1), 5);
        due("at(2)", x.at(2), -1);
        due("at(3)", x.at(3), NO);
        due("at(4)", x.at(4), NO);
        due("at(6)", x.at(6), NO);
        for (int d : new int[] {0, 5, 7, 8, -1, -2, 12, LEAST, GREATEST}) {
            due("at(" + d + ")", x.at(d), NO - 1);
        }
        // A tower of n has 1 + w + .. + w^n.
        due("at(1) of a tower of 8", tower(8).at(1), 9);
        due("at(2) of a tower of 8", tower(8).at(2), 1);
        due("at(3) of a tower of 8", tower(8).at(3), 0);
        due("at(4) of a tower of 8", tower(8).at(4), 1);
        due("at(6) of a tower of 8", tower(8).at(6), NO);
        due("at(6) of a tower of 6", tower(6).at(6), 1);
        due("at(6) of a tower of 5", tower(5).at(6), 0);
        due("at(3) of a tower of 3", tower(3).at(3), 1);
        FlipHeaps free = new FlipHeaps();
        free.things(6);
        // (1 + w)^6: 1 + w is of length 1 for 3 and of length root 3 for 6, at angles 60 and 30.
        due("at(3) of 6", free.at(3), 1);
        due("at(6) of 6", free.at(6), -27);
        due("at(4) of 6", free.at(4), NO);
        free.things(4);
        due("at(4) of 4", free.at(4), -4);
        free.things(3);
        due("at(3) of 3", free.at(3), -1);
    }

    private static void stays() {
        promise = 23;
        FlipHeaps x = roof();
        int[] due = {5, 0, 2, 3, 2, 0, 5};
        for (int j = 0; j < due.length; j++) {
            due("stays(0, " + j + ")", x.stays(0, j), due[j]);
        }
        due("stays(0, 1000)", x.stays(0, 1000), 2);
        due("stays(0, 999)", x.stays(0, 999), 3);
        due("stays(0, 1001)", x.stays(0, 1001), BAD);
        due("stays(0, -1)", x.stays(0, -1), BAD);
        due("stays(1, 7)", x.stays(1, 7), 5);
        x.say(0);
        due("stays(1, 7) by 0", x.stays(1, 7), 1);
        due("stays(2, 0)", x.stays(2, 0), BAD);
        due("stays(-1, 0)", x.stays(-1, 0), BAD);
    }

    private static void count() {
        promise = 24;
        FlipHeaps x = tower(5);
        x.say(4);
        x.say(4);
        due("count(0)", x.count(0), 5);
        due("count(1)", x.count(1), 2);
        due("count(2)", x.count(2), 10);
        due("count(3)", x.count(3), BAD);
        due("count(-1)", x.count(-1), BAD);
        due("count(2) of a tower of 8", tower(8).count(2), 28);
    }

    private static void trace() {
        promise = 25;
        FlipHeaps x = roof();
        due("trace()", x.trace(), 0);
        x.measure(0, 7);
        due("trace() behind SIZE", x.trace(), 1);
        x.measure(1, 7);
        due("trace() behind WEIGHED", x.trace(), 12);
        x.measure(2, 0);
        due("trace() behind EDGED", x.trace(), 123);
        x.measure(3, 0);
        x.measure(2, 4);
        x.measure(2, 8);
        x.measure(-1, -1);
        due("trace() behind BAD", x.trace(), 123);
        x.mean(0, 0, 2, 0);
        x.even(0, 2);
        due("trace() behind mean and even", x.trace(), 123);
        x.things(2);
        due("trace() behind things", x.trace(), 123);
    }

    /** What can be seen of an object: all that a refused call may not change. */
    private static String seen(FlipHeaps x) {
        StringBuilder text = new StringBuilder();
        int n = x.count(0);
        text.append(n).append(' ').append(x.count(1)).append(' ').append(x.trace());
        for (int i = 0; i < n; i++) {
            for (int k = 0; k < n; k++) {
                text.append(' ').append(x.below(i, k));
            }
        }
        for (int set = 0; set < 1 << n; set++) {
            text.append(' ').append(x.turn(set, 1, 1)).append(' ').append(x.mean(set, 0, 1, 0));
        }
        return text.toString();
    }

    private static void refusalsChangeNothing() {
        promise = 0;
        FlipHeaps x = roof();
        x.weight(1, 3);
        x.say(1);
        x.say(2);
        x.measure(2, 3);
        String before = seen(x);
        int[] bad = {-1, LEAST, GREATEST};
        for (int b : bad) {
            x.things(b);
            x.lay(b, 1);
            x.lay(0, b);
            x.below(b, b);
            x.weight(b, 1);
            x.weight(0, b == -1 ? 10 : b);
            x.say(b);
            x.heap(b);
            x.flip(b, 0);
            x.flip(0, b);
            x.turn(b, 1, 1);
            x.turn(0, b, 1);
            x.turn(0, 0, b);
            x.orbit(b, 1);
            x.orbits(b, b);
            x.measure(b, 0);
            x.measure(0, b);
            x.mean(b, b, b, b);
            x.even(b, b);
            x.fillings(b);
            x.bend(b, b, b);
            x.round(b, b, b);
            x.period(b, b, b);
            x.counts(b);
            x.at(b);
            x.stays(b, b);
            x.count(b);
        }
        due("what is seen behind refusals is the same", seen(x).equals(before) ? 1 : 0, 1);
    }

    /** The calls that README.md shows, in its order. */
    private static void exampleOfTheReadme() {
        promise = 0;
        FlipHeaps x = new FlipHeaps();
        due("lay(0, 2)", x.lay(0, 2), 1);
        due("lay(1, 2)", x.lay(1, 2), 1);
        due("many()", x.many(), 5);
        due("flip(3, 2)", x.flip(3, 2), 7);
        due("turn(0, 0, 1)", x.turn(0, 0, 1), 3);
        due("orbits(0, 1)", x.orbits(0, 1), 6);
        due("mean(0, 0, 0, 0)", x.mean(0, 0, 0, 0), 5);
        due("mean(0, 0, 0, 1)", x.mean(0, 0, 0, 1), 3);
        due("say(2)", x.say(2), 1);
        due("turn(3, 1, 1)", x.turn(3, 1, 1), 7);
        due("weight(2, -4)", x.weight(2, -4), 0);
        due("measure(2, 7)", x.measure(2, 7), 0);
        due("trace()", x.trace(), 111);
        due("fillings(2)", x.fillings(2), 14);
        due("round(2, 0, 0)", x.round(2, 0, 0), 8);
        due("at(2)", x.at(2), -1);
        due("lay(2, 1)", x.lay(2, 1), BAD);
    }
}
