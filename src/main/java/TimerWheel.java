/** Rings timers when their time has come. */
public final class TimerWheel {
    public static final int BAD = -1;
    public static final int NONE = -2;

    private static final int TIMERS = 16;
    private static final int LONGEST_WAIT = 500;
    private static final int MOST_TICKS = 1000;
    private static final int ROW = 20;

    private final boolean[] isSet = new boolean[TIMERS];
    private final int[] ringTick = new int[TIMERS];
    private final int[] periodOf = new int[TIMERS];
    private int time = 0;

    // The row is a circle: newest is where the last ring is noted, and the
    // rings before it stand at the places before it.
    private final int[] rowTimer = new int[ROW];
    private final int[] rowTick = new int[ROW];
    private int newest = 0;
    // Counted apart from ringCount, so that no place in the row ever hangs on
    // a number that could wrap around.
    private int noted = 0;
    private int ringCount = 0;

    public TimerWheel() {
    }

    public int set(int k, int delay, int period) {
        if (!isTimer(k) || delay < 1 || delay > LONGEST_WAIT || !isPeriod(period)) {
            return BAD;
        }
        isSet[k] = true;
        ringTick[k] = time + delay;
        periodOf[k] = period;
        return ringTick[k];
    }

    public int cancel(int k) {
        if (!isTimerSet(k)) {
            return BAD;
        }
        isSet[k] = false;
        return ringTick[k] - time;
    }

    public int pass(int n) {
        if (n < 0 || n > MOST_TICKS) {
            return BAD;
        }
        return letPass(n);
    }

    public int toNext() {
        int k = next();
        if (k == NONE) {
            return NONE;
        }
        int ticks = ringTick[k] - time;
        letPass(ticks);
        return ticks;
    }

    public int now() {
        return time;
    }

    public int timers() {
        int bits = 0;
        for (int k = 0; k < TIMERS; k++) {
            if (isSet[k]) {
                bits |= 1 << k;
            }
        }
        return bits;
    }

    public int left(int k) {
        if (!isTimerSet(k)) {
            return BAD;
        }
        return ringTick[k] - time;
    }

    public int next() {
        int first = NONE;
        // No set timer waits longer than LONGEST_WAIT, so the first one found
        // is always nearer than this.
        int least = LONGEST_WAIT + 1;
        for (int k = 0; k < TIMERS; k++) {
            if (isSet[k] && ringTick[k] - time < least) {
                first = k;
                least = ringTick[k] - time;
            }
        }
        return first;
    }

    public int within(int n) {
        int count = 0;
        for (int k = 0; k < TIMERS; k++) {
            // Not ringTick[k] <= time + n: that sum wraps around for a great n.
            if (isSet[k] && ringTick[k] - time <= n) {
                count++;
            }
        }
        return count;
    }

    public int rings() {
        return ringCount;
    }

    public int rung(int i) {
        if (!isNoted(i)) {
            return NONE;
        }
        return rowTimer[placeInRow(i)];
    }

    public int rungAt(int i) {
        if (!isNoted(i)) {
            return NONE;
        }
        return rowTick[placeInRow(i)];
    }

    public boolean repeat(int k, int period) {
        if (!isTimerSet(k) || !isPeriod(period)) {
            return false;
        }
        periodOf[k] = period;
        return true;
    }

    public int period(int k) {
        if (!isTimerSet(k)) {
            return BAD;
        }
        return periodOf[k];
    }

    private static boolean isTimer(int k) {
        return k >= 0 && k < TIMERS;
    }

    private static boolean isPeriod(int period) {
        return period >= 0 && period <= LONGEST_WAIT;
    }

    private boolean isTimerSet(int k) {
        return isTimer(k) && isSet[k];
    }

    private int letPass(int ticks) {
        int before = ringCount;
        for (int i = 0; i < ticks; i++) {
            time++;
            ringAllDue();
        }
        return ringCount - before;
    }

    private void ringAllDue() {
        for (int k = 0; k < TIMERS; k++) {
            if (isSet[k] && ringTick[k] == time) {
                note(k);
                setAgain(k);
            }
        }
    }

    private void setAgain(int k) {
        if (periodOf[k] == 0) {
            isSet[k] = false;
        } else {
            ringTick[k] = time + periodOf[k];
        }
    }

    private void note(int k) {
        ringCount++;
        newest = (newest + 1) % ROW;
        rowTimer[newest] = k;
        rowTick[newest] = time;
        if (noted < ROW) {
            noted++;
        }
    }

    private boolean isNoted(int i) {
        return i >= 0 && i < noted;
    }

    private int placeInRow(int i) {
        // ROW is added because a remainder below 0 would be no place.
        return (newest - i + ROW) % ROW;
    }
}
