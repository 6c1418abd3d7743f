import java.util.ArrayList;
import java.util.List;
import java.util.Random;
import java.util.TreeMap;

// Long runs of mixed calls, held against a second telling of the document that works in another way:
// it goes from ring to ring instead of tick to tick, and keeps every ring ever noted.
// The seed is fixed, so every run of the test makes the same calls.
public final class RandomRunsTest {
    private static final int RUNS = 1500;
    private static final int CALLS = 512;
    // Set, pass, rung and rungAt stand for more than one number, so that they are called more often.
    private static final int METHODS = 19;
    private static final int[] ODD = {Integer.MIN_VALUE, -501, -17, -1, 0, 1, 15, 16, 17, 19, 20, 32, 499, 500, 501,
        1000, 1001, Integer.MAX_VALUE - 1, Integer.MAX_VALUE};

    public static void main(String[] args) {
        int wrongRuns = 0;
        for (int run = 0; run < RUNS; run++) {
            if (!runIsAsDue(run)) {
                wrongRuns++;
            }
        }
        System.out.println(wrongRuns == 0 ? "all answers are as due" : wrongRuns + " runs are not as due");
        if (wrongRuns != 0) {
            System.exit(1);
        }
    }

    private static boolean runIsAsDue(int run) {
        Random random = new Random(run);
        // Small numbers let timers meet at one tick, great ones reach the limits.
        int span = run % 3 == 0 ? 6 : run % 3 == 1 ? 70 : 510;
        TimerWheel x = new TimerWheel();
        Told told = new Told();
        for (int call = 1; call <= CALLS; call++) {
            int method = random.nextInt(METHODS);
            int a = argument(random, takesTicks(method) ? span : 17);
            int b = argument(random, span);
            int c = random.nextInt(3) == 0 ? 0 : argument(random, span);
            long got = answer(x, method, a, b, c);
            long want = told.answer(method, a, b, c);
            if (got != want) {
                System.out.println("run " + run + ", call " + call + ": method " + method + " (" + a + ", " + b + ", " + c
                    + ") answered " + got + ", due is " + want);
                return false;
            }
        }
        return true;
    }

    private static int argument(Random random, int span) {
        return random.nextInt(12) == 0 ? ODD[random.nextInt(ODD.length)] : random.nextInt(span);
    }

    private static long answer(TimerWheel x, int method, int a, int b, int c) {
        switch (method) {
            case 0: case 1: case 2: return x.set(a, b, c);
            case 3: return x.cancel(a);
            case 4: case 5: return x.pass(a);
            case 6: return x.within(a);
            case 7: return x.toNext();
            case 8: return x.left(a);
            case 9: return x.period(a);
            case 10: return x.repeat(a, b) ? 1 : 0;
            case 11: return x.rung(a + 3);
            case 12: return x.rungAt(a + 3);
            case 13: return x.rung(a);
            case 14: return x.rungAt(a);
            case 15: return x.next();
            case 16: return x.now();
            case 17: return x.timers();
            default: return x.rings();
        }
    }

    private static boolean takesTicks(int method) {
        return method >= 4 && method <= 6;
    }

    private static final class Told {
        private long time = 0;
        // Timer -> {tick at which it rings, period}; the map is sorted by the timer's number.
        private final TreeMap<Integer, long[]> set = new TreeMap<>();
        private final List<long[]> row = new ArrayList<>();

        long answer(int method, int a, int b, int c) {
            switch (method) {
                case 0: case 1: case 2: return set(a, b, c);
                case 3: return set.containsKey(a) ? set.remove(a)[0] - time : -1;
                case 4: case 5: return a < 0 || a > 1000 ? -1 : goTo(time + a);
                case 6: return set.values().stream().filter(s -> s[0] - time <= (long) a).count();
                case 7: return toNext();
                case 8: return set.containsKey(a) ? set.get(a)[0] - time : -1;
                case 9: return set.containsKey(a) ? set.get(a)[1] : -1;
                case 10: return repeat(a, b);
                case 11: return noted(a + 3, 0);
                case 12: return noted(a + 3, 1);
                case 13: return noted(a, 0);
                case 14: return noted(a, 1);
                case 15: return set.isEmpty() ? -2 : nearest();
                case 16: return time;
                case 17: return set.keySet().stream().mapToLong(k -> 1L << k).sum();
                default: return row.size();
            }
        }

        private long set(int k, int delay, int period) {
            if (k < 0 || k > 15 || delay < 1 || delay > 500 || period < 0 || period > 500) {
                return -1;
            }
            set.put(k, new long[] {time + delay, period});
            return time + delay;
        }

        private long repeat(int k, int period) {
            if (!set.containsKey(k) || period < 0 || period > 500) {
                return 0;
            }
            set.get(k)[1] = period;
            return 1;
        }

        private long toNext() {
            if (set.isEmpty()) {
                return -2;
            }
            long ticks = set.get(nearest())[0] - time;
            goTo(time + ticks);
            return ticks;
        }

        private int nearest() {
            int found = set.firstKey();
            for (int k : set.keySet()) {
                if (set.get(k)[0] < set.get(found)[0]) {
                    found = k;
                }
            }
            return found;
        }

        private long goTo(long end) {
            int before = row.size();
            while (!set.isEmpty() && set.get(nearest())[0] <= end) {
                int k = nearest();
                long[] s = set.get(k);
                row.add(new long[] {k, s[0]});
                if (s[1] == 0) {
                    set.remove(k);
                } else {
                    s[0] += s[1];
                }
            }
            time = end;
            return row.size() - before;
        }

        private long noted(int i, int which) {
            return i < 0 || i > 19 || i >= row.size() ? -2 : row.get(row.size() - 1 - i)[which];
        }
    }
}
