import java.util.ArrayList;
import java.util.List;

/**
 * Every number of every call, for each count of things and each state of the chain: the least and the
 * greatest that are as told are taken; the next ones beyond, the least and the greatest int are refused,
 * with the refusal that the document names, and nothing changes by it.
 */
public final class RefusalsTest {
    private static final int BAD = -1;
    private static final int FULL = -3;
    private static final int NO = -1000000;
    private static final int LEAST = Integer.MIN_VALUE;
    private static final int GREATEST = Integer.MAX_VALUE;
    private static final int[] CHAINS = {0, 3, 16};
    private static int wrong = 0;
    private static int refused = 0;

    public static void main(String[] args) {
        for (int n = 1; n <= 8; n++) {
            for (int chain : CHAINS) {
                for (Asked asked : allCalls(n, chain)) {
                    edgesAreTaken(asked, n, chain);
                    beyondIsRefused(asked, n, chain);
                }
                setsThatAreNoHeaps(n, chain);
                fullChangesNothing(n, chain);
            }
        }
        due("refused calls that were tried are many", refused > 5000 ? 1 : 0, 1);
        System.out.println(wrong == 0 ? "RefusalsTest: all answers are as due" : "RefusalsTest: " + wrong + " answers are not as due");
        if (wrong != 0) {
            System.exit(1);
        }
    }

    private static void due(String what, long got, long want) {
        if (got != want) {
            wrong++;
            System.out.println(what + " answered " + got + ", due is " + want);
        }
    }

    private interface Call {
        int on(FlipHeaps x, int[] a);
    }

    /** A call, what it answers when it refuses, and the least and greatest of each of its numbers. */
    private static final class Asked {
        final String name;
        final int refusal;
        final Call call;
        final int[] limits;

        Asked(String name, int refusal, Call call, int... limits) {
            this.name = name;
            this.refusal = refusal;
            this.call = call;
            this.limits = limits;
        }

        int places() {
            return limits.length / 2;
        }

        int least(int place) {
            return limits[2 * place];
        }

        int greatest(int place) {
            return limits[2 * place + 1];
        }

        int[] beyond(int place) {
            return new int[] {least(place) - 1, greatest(place) + 1, LEAST, LEAST + 1, GREATEST - 1, GREATEST};
        }

        /** All numbers as told: bit k of which picks the least or the greatest at place k. */
        int[] within(int which) {
            int[] a = new int[places()];
            for (int place = 0; place < a.length; place++) {
                a[place] = (which >> place & 1) == 0 ? least(place) : greatest(place);
            }
            return a;
        }

        String told(int[] a) {
            StringBuilder text = new StringBuilder(name).append('(');
            for (int place = 0; place < a.length; place++) {
                text.append(place == 0 ? "" : ", ").append(a[place]);
            }
            return text.append(')').toString();
        }
    }

    private static List<Asked> allCalls(int n, int chain) {
        List<Asked> all = new ArrayList<>();
        callsOnThings(all, n, chain);
        callsOnHeaps(all, n);
        callsOnFillings(all, n);
        callsOnCounts(all, n);
        return all;
    }

    private static void callsOnThings(List<Asked> all, int n, int chain) {
        int last = n - 1;
        all.add(new Asked("things", BAD, (x, a) -> x.things(a[0]), 1, 8));
        if (n >= 2) {
            // One number is held at its far end, so that the other one's edge is its own.
            all.add(new Asked("lay(.., last)", BAD, (x, a) -> x.lay(a[0], last), 0, last - 1));
            all.add(new Asked("lay(0, ..)", BAD, (x, a) -> x.lay(0, a[0]), 1, last));
        }
        all.add(new Asked("below", BAD, (x, a) -> x.below(a[0], a[1]), 0, last, 0, last));
        all.add(new Asked("weight", NO, (x, a) -> x.weight(a[0], a[1]), 0, last, -9, 9));
        if (chain < 16) {
            all.add(new Asked("say", BAD, (x, a) -> x.say(a[0]), 0, last));
        }
    }

    private static void callsOnHeaps(List<Asked> all, int n) {
        int last = n - 1;
        // The empty set and the set of all are heaps, whatever is below what.
        int full = (1 << n) - 1;
        all.add(new Asked("heap", BAD, (x, a) -> x.heap(a[0]), 0, full));
        all.add(new Asked("flip", BAD, (x, a) -> x.flip(a[0], a[1]), 0, full, 0, last));
        all.add(new Asked("turn", BAD, (x, a) -> x.turn(a[0], a[1], a[2]), 0, full, 0, 1, 0, 1000));
        all.add(new Asked("orbit", BAD, (x, a) -> x.orbit(a[0], a[1]), 0, full, 0, 1));
        all.add(new Asked("orbits", BAD, (x, a) -> x.orbits(a[0], a[1]), 0, 1, 0, 2));
        all.add(new Asked("measure", NO, (x, a) -> x.measure(a[0], a[1]), 0, 2, 0, full));
        all.add(new Asked("mean", NO, (x, a) -> x.mean(a[0], a[1], a[2], a[3]), 0, full, 0, 1, 0, 2, 0, 1));
        all.add(new Asked("even", BAD, (x, a) -> x.even(a[0], a[1]), 0, 1, 0, 2));
    }

    private static void callsOnFillings(List<Asked> all, int n) {
        int last = n - 1;
        all.add(new Asked("fillings", BAD, (x, a) -> x.fillings(a[0]), 1, 3));
        all.add(new Asked("bend(.., 0, ..)", BAD, (x, a) -> x.bend(a[0], 0, a[1]), 1, 3, 0, last));
        all.add(new Asked("round(.., 0, ..)", BAD, (x, a) -> x.round(a[0], 0, a[1]), 1, 3, 0, 1));
        all.add(new Asked("period(.., 0, ..)", BAD, (x, a) -> x.period(a[0], 0, a[1]), 1, 3, 0, 1));
        for (int h = 1; h <= 3; h++) {
            int height = h;
            int greatest = (int) Math.round(Math.pow(h + 1, n)) - 1;
            all.add(new Asked("bend " + h, BAD, (x, a) -> x.bend(height, a[0], a[1]), 0, greatest, 0, last));
            all.add(new Asked("round " + h, BAD, (x, a) -> x.round(height, a[0], a[1]), 0, greatest, 0, 1));
            all.add(new Asked("period " + h, BAD, (x, a) -> x.period(height, a[0], a[1]), 0, greatest, 0, 1));
        }
    }

    private static void callsOnCounts(List<Asked> all, int n) {
        all.add(new Asked("counts", BAD, (x, a) -> x.counts(a[0]), 0, n));
        // 5 lies between, so that its two sides are asked for themselves.
        all.add(new Asked("at", NO - 1, (x, a) -> x.at(a[0]), 1, 4));
        all.add(new Asked("at", NO - 1, (x, a) -> x.at(a[0]), 6, 6));
        all.add(new Asked("stays", BAD, (x, a) -> x.stays(a[0], a[1]), 0, 1, 0, 1000));
        all.add(new Asked("count", BAD, (x, a) -> x.count(a[0]), 0, 2));
    }

    /** An object with something in all that it keeps, so that a change shows. */
    private static FlipHeaps busy(int n, int chain) {
        FlipHeaps x = new FlipHeaps();
        x.things(n);
        x.lay(0, n - 1);
        x.lay(1, n - 1);
        for (int k = 0; k < n; k++) {
            x.weight(k, k % 2 == 0 ? 9 - k : k - 9);
        }
        for (int k = 0; k < chain; k++) {
            x.say((3 * k + 1) % n);
        }
        x.measure(2, 0);
        return x;
    }

    /** All that can be seen of an object. It is spent by that: weights are read by writing. */
    private static String seen(FlipHeaps x) {
        StringBuilder text = new StringBuilder();
        int n = x.count(0);
        text.append(n).append(' ').append(x.count(1)).append(' ').append(x.count(2)).append(' ').append(x.trace());
        for (int i = 0; i < n; i++) {
            for (int k = i + 1; k < n; k++) {
                text.append(' ').append(x.below(i, k));
            }
        }
        for (int set = 0; set < 1 << n; set++) {
            text.append(' ').append(x.turn(set, 1, 1));
        }
        for (int h = 1; h <= 3; h++) {
            text.append(' ').append(x.round(h, 0, 0)).append(' ').append(x.round(h, 0, 1)).append(' ').append(x.round(h, h, 1));
        }
        for (int k = 0; k < n; k++) {
            text.append(' ').append(x.weight(k, 0));
        }
        return text.toString();
    }

    private static String state(int n, int chain) {
        return " of " + n + " things and a chain of " + chain;
    }

    private static void edgesAreTaken(Asked asked, int n, int chain) {
        for (int which = 0; which < 1 << asked.places(); which++) {
            int[] a = asked.within(which);
            int got = asked.call.on(busy(n, chain), a);
            due(asked.told(a) + state(n, chain) + " is taken: not " + got, got == asked.refusal ? 0 : 1, 1);
        }
    }

    private static void beyondIsRefused(Asked asked, int n, int chain) {
        String untouched = seen(busy(n, chain));
        for (int place = 0; place < asked.places(); place++) {
            for (int beyond : asked.beyond(place)) {
                for (int which = 0; which < 1 << asked.places(); which++) {
                    int[] a = asked.within(which);
                    a[place] = beyond;
                    refuse(asked.told(a), asked, a, n, chain, untouched);
                }
            }
        }
        for (int side = 0; side < 6; side++) {
            int[] a = new int[asked.places()];
            for (int place = 0; place < a.length; place++) {
                a[place] = asked.beyond(place)[side];
            }
            refuse(asked.told(a), asked, a, n, chain, untouched);
        }
    }

    private static void refuse(String told, Asked asked, int[] a, int n, int chain, String untouched) {
        refused++;
        FlipHeaps x = busy(n, chain);
        due(told + state(n, chain), asked.call.on(x, a), asked.refusal);
        due(told + state(n, chain) + " changes nothing", seen(x).equals(untouched) ? 1 : 0, 1);
    }

    /** The last thing without the first has no bits beyond, but is no heap as soon as there are two. */
    private static void setsThatAreNoHeaps(int n, int chain) {
        if (n < 2) {
            return;
        }
        int none = 1 << n - 1;
        String untouched = seen(busy(n, chain));
        List<Asked> all = new ArrayList<>();
        all.add(new Asked("flip", BAD, (x, a) -> x.flip(none, a[0]), 0, n - 1));
        all.add(new Asked("turn", BAD, (x, a) -> x.turn(none, a[0], 0), 0, 1));
        all.add(new Asked("turn", BAD, (x, a) -> x.turn(none, a[0], 1000), 0, 1));
        all.add(new Asked("orbit", BAD, (x, a) -> x.orbit(none, a[0]), 0, 1));
        all.add(new Asked("measure", NO, (x, a) -> x.measure(a[0], none), 0, 2));
        all.add(new Asked("mean", NO, (x, a) -> x.mean(none, a[0], a[1], a[2]), 0, 1, 0, 2, 0, 1));
        for (int h = 1; h <= 3; h++) {
            int height = h;
            int filling = (int) Math.round(Math.pow(h + 1, n - 1));
            all.add(new Asked("bend " + h, BAD, (x, a) -> x.bend(height, filling, a[0]), 0, n - 1));
            all.add(new Asked("round " + h, BAD, (x, a) -> x.round(height, filling, a[0]), 0, 1));
            all.add(new Asked("period " + h, BAD, (x, a) -> x.period(height, filling, a[0]), 0, 1));
        }
        for (Asked asked : all) {
            for (int which = 0; which < 1 << asked.places(); which++) {
                int[] a = asked.within(which);
                refuse(asked.told(a) + " of no heap or filling", asked, a, n, chain, untouched);
            }
        }
        due("heap(" + none + ")" + state(n, chain), busy(n, chain).heap(none), 0);
    }

    /** A full chain refuses each thing by FULL, and each number that is no thing by BAD. */
    private static void fullChangesNothing(int n, int chain) {
        if (chain < 16) {
            return;
        }
        String untouched = seen(busy(n, chain));
        Asked full = new Asked("say", FULL, (x, a) -> x.say(a[0]), 0, n - 1);
        Asked bad = new Asked("say", BAD, (x, a) -> x.say(a[0]), 0, n - 1);
        for (int thing = 0; thing < n; thing++) {
            refuse("say(" + thing + ")", full, new int[] {thing}, n, chain, untouched);
        }
        for (int thing : bad.beyond(0)) {
            refuse("say(" + thing + ")", bad, new int[] {thing}, n, chain, untouched);
        }
    }
}
