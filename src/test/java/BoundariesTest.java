import java.util.function.ToLongFunction;

// One method for each sentence of the document that names a boundary case, with the sentence above it:
// the last input that is taken and the first that is refused, on either side, and that a refusal changes nothing.
public final class BoundariesTest {
    private static final int BAD = -1;
    private static final int NONE = -2;
    private static final int FALSE = 0;
    private static final int TRUE = 1;
    private static final int MIN = Integer.MIN_VALUE;
    private static final int MAX = Integer.MAX_VALUE;

    // The first wrong numbers on either side, then those that a mask, a shift or a shorter type would take for right.
    private static final int[] NO_TIMERS = {-1, 16, -2, -16, 17, 31, 32, 48, 256, 65536, MIN, MIN + 15, MAX};
    private static final int[] NO_DELAYS = {0, 501, -1, -500, 502, 512, 1000, 65537, MIN, MIN + 1, MAX};
    private static final int[] NO_PERIODS = {-1, 501, -2, -500, 502, 512, 1000, 65536, MIN, MIN + 1, MAX};
    private static final int[] NO_TICKS = {-1, 1001, -2, -1000, 1002, 1024, 65536, MIN, MIN + 1, MAX};
    private static final int[] NO_PLACES = {-1, 20, -2, -19, -20, 21, 32, 39, 40, 256, 65536, MIN, MIN + 1, MAX};

    private static int wrong = 0;

    public static void main(String[] args) {
        whatItIs512Calls();
        whatItIs512CallsRefusedOnesToo();
        termsTimeIsZeroAtFirst();
        termsTimers0To15();
        termsLeastNumberFirst();
        termsNotSetAnyMoreUnlessRepeating();
        termsRowKeepsTheLast20();
        promise1NoTimerIsSet();
        promise2TimerBounds();
        promise2DelayBounds();
        promise2PeriodBounds();
        promise2BoundsTogether();
        promise2InPlaceOfWhatItWasSetFor();
        promise2RefusedKeepsWhatItWasSetFor();
        promise2OnceOrWithAPeriod();
        promise3TicksItWouldHaveRungAfter();
        promise3NotSet();
        promise3TimerBounds();
        promise4TickBounds();
        promise4OneAfterTheOther();
        promise5ThisIncluded();
        promise5NoTimerIsSet();
        promise6TheTime();
        promise7BitKForTimerK();
        promise8TicksUntilItRings();
        promise8NotSet();
        promise8TimerBounds();
        promise9OfSeveralTheLeast();
        promise9NoneIsSet();
        promise10WithinTheNextTicks();
        promise10ForTheFirstTime();
        promise10AnyNumberOfTicks();
        promise11AllTogether();
        promise12NotSoMany();
        promise12PlaceBounds();
        promise13NotSoMany();
        promise13PlaceBounds();
        promise14ZeroForNone();
        promise14WithoutChangingWhenItRingsNext();
        promise14NotSet();
        promise14TimerBounds();
        promise14PeriodBounds();
        promise15ZeroWhenItRingsOnce();
        promise15NotSet();
        promise15TimerBounds();
        promise16RefusedOneAfterTheOther();
        System.out.println(wrong == 0 ? "all boundaries hold" : wrong + " boundaries are broken");
        if (wrong != 0) {
            System.exit(1);
        }
    }

    private static void due(String what, long got, long want) {
        if (got != want) {
            wrong++;
            System.out.println(what + " answered " + got + ", due is " + want);
        }
    }

    private static int flag(boolean answer) {
        return answer ? TRUE : FALSE;
    }

    // ---- the states in which calls are refused ----

    private enum State {
        // Nothing set, nothing rung.
        NEW(0),
        // Four set, once and repeating; timer 1 has rung, timer 2 was cancelled, the rest were never set.
        BUSY(1 | 1 << 3 | 1 << 9 | 1 << 15),
        // All set and repeating, the row full many times over.
        FULL(0xFFFF),
        // All have rung and none is set any more, the row full.
        RUN_OUT(0);

        private final int timers;

        State(int timers) {
            this.timers = timers;
        }

        boolean isSet(int k) {
            return (timers >> k & 1) == 1;
        }

        TimerWheel make() {
            TimerWheel x = new TimerWheel();
            switch (this) {
                case BUSY: makeBusy(x); break;
                case FULL: makeFull(x); break;
                case RUN_OUT: makeRunOut(x); break;
                default: break;
            }
            due(this + ": timers", x.timers(), timers);
            return x;
        }

        private static void makeBusy(TimerWheel x) {
            x.set(0, 5, 6);
            x.set(1, 2, 0);
            x.set(2, 4, 4);
            x.set(3, 500, 500);
            x.set(9, 9, 0);
            x.set(15, 1, 2);
            x.pass(3);
            x.cancel(2);
        }

        private static void makeFull(TimerWheel x) {
            for (int k = 0; k < 16; k++) {
                x.set(k, 16 - k, 1 + k * 33);
            }
            x.pass(777);
        }

        private static void makeRunOut(TimerWheel x) {
            for (int round = 0; round < 2; round++) {
                for (int k = 0; k < 16; k++) {
                    x.set(k, 1 + k * 5 % 16, 0);
                }
                x.pass(20);
            }
        }
    }

    // A refused call answers its code and leaves the object as a twin is that never got the call, now and later.
    private static void refusedIn(State state, String what, ToLongFunction<TimerWheel> call, int code) {
        TimerWheel x = state.make();
        TimerWheel twin = state.make();
        String where = what + " in state " + state;
        due(where, call.applyAsLong(x), code);
        same(where, x, twin);
        due(where + ", rings after it", x.pass(1), twin.pass(1));
        same(where + " and a tick", x, twin);
        due(where + ", rings long after it", x.pass(1000), twin.pass(1000));
        same(where + " and 1001 ticks", x, twin);
    }

    private static void refused(String what, ToLongFunction<TimerWheel> call, int code) {
        for (State state : State.values()) {
            refusedIn(state, what, call, code);
        }
    }

    private interface TimerCall {
        long answer(TimerWheel x, int k);
    }

    private static void refusesTimersOutOfBounds(String what, TimerCall call, int code) {
        for (int k : NO_TIMERS) {
            refused(what + " of timer " + k, x -> call.answer(x, k), code);
        }
    }

    private static void refusesTimersNotSet(String what, TimerCall call, int code) {
        for (State state : State.values()) {
            for (int timer = 0; timer < 16; timer++) {
                int k = timer;
                if (!state.isSet(k)) {
                    refusedIn(state, what + " of timer " + k + ", not set", x -> call.answer(x, k), code);
                }
            }
        }
    }

    private static void same(String what, TimerWheel x, TimerWheel twin) {
        String got = allAnswers(x);
        String want = allAnswers(twin);
        if (!got.equals(want)) {
            wrong++;
            System.out.println(what + " changed something:\n  now  " + got + "\n  due  " + want);
        }
    }

    // Some 80 calls: an object can be asked so about five times before its 512th call.
    private static String allAnswers(TimerWheel x) {
        StringBuilder all = new StringBuilder();
        all.append("now ").append(x.now()).append(" timers ").append(x.timers());
        all.append(" next ").append(x.next()).append(" rings ").append(x.rings());
        all.append(" within ").append(x.within(1)).append(' ').append(x.within(500)).append(" left/period");
        for (int k = 0; k < 16; k++) {
            all.append(' ').append(x.left(k)).append('/').append(x.period(k));
        }
        all.append(" row");
        for (int i = 0; i < 20; i++) {
            all.append(' ').append(x.rung(i)).append('@').append(x.rungAt(i));
        }
        return all.toString();
    }

    // ---- What it is ----

    // "An object is used for at most 512 calls after it has been made"
    private static void whatItIs512Calls() {
        lastCall("set", x -> x.set(15, 500, 500), 495500);
        lastCall("set refused", x -> x.set(16, 500, 500), BAD);
        lastCall("cancel", x -> x.cancel(0), 1);
        lastCall("pass", x -> x.pass(1000), 16000);
        lastCall("pass refused", x -> x.pass(1001), BAD);
        lastCall("toNext", x -> x.toNext(), 1);
        lastCall("now", x -> x.now(), 495000);
        lastCall("timers", x -> x.timers(), 0xFFFF);
        lastCall("left", x -> x.left(15), 1);
        lastCall("next", x -> x.next(), 0);
        lastCall("within", x -> x.within(1), 16);
        lastCall("rings", x -> x.rings(), 495 * 16000);
        lastCall("rung", x -> x.rung(19), 12);
        lastCall("rungAt", x -> x.rungAt(19), 494999);
        lastCall("repeat", x -> flag(x.repeat(15, 0)), TRUE);
        lastCall("period", x -> x.period(15), 1);
    }

    // The 511 calls before let as much time pass, and as many timers ring, as 511 calls can.
    private static void lastCall(String what, ToLongFunction<TimerWheel> call, int want) {
        TimerWheel x = new TimerWheel();
        for (int k = 0; k < 16; k++) {
            x.set(k, 1, 1);
        }
        for (int count = 17; count <= 511; count++) {
            x.pass(1000);
        }
        due("512th call, " + what, call.applyAsLong(x), want);
    }

    private static void whatItIs512CallsRefusedOnesToo() {
        TimerWheel refused = new TimerWheel();
        for (int count = 1; count <= 510; count++) {
            due("refused call " + count, refused.set(0, 1, 501), BAD);
        }
        due("511th call, set after refusals", refused.set(0, 500, 0), 500);
        due("512th call, toNext after refusals", refused.toNext(), 500);

        TimerWheel leaps = new TimerWheel();
        leaps.set(7, 500, 500);
        for (int count = 2; count <= 511; count++) {
            due("call " + count + ", toNext", leaps.toNext(), 500);
        }
        due("512th call, rungAt", leaps.rungAt(0), 510 * 500);

        TimerWheel settings = new TimerWheel();
        for (int count = 1; count <= 511; count++) {
            due("call " + count + ", set", settings.set(count % 16, 500, 1), 500);
        }
        due("512th call, timers", settings.timers(), 0xFFFF);
    }

    // ---- Terms ----

    // "Time goes in TICKS 0, 1, .. ; it is 0 at first."
    private static void termsTimeIsZeroAtFirst() {
        TimerWheel x = new TimerWheel();
        due("terms: time at first", x.now(), 0);
        due("terms: the first tick at which a timer can ring", x.set(0, 1, 0), 1);
        x.pass(1);
        due("terms: time after a tick", x.now(), 1);
        due("terms: the first ring", x.rungAt(0), 1);
    }

    // "There are TIMERS 0 .. 15; each is SET, with a tick at which it rings, or not."
    private static void termsTimers0To15() {
        TimerWheel x = new TimerWheel();
        for (int k = 0; k < 16; k++) {
            due("terms: set " + k, x.set(k, 100 + k, 0), 100 + k);
        }
        for (int k = 0; k < 16; k++) {
            due("terms: each has its own tick, left " + k, x.left(k), 100 + k);
        }
        for (int k = 0; k < 16; k++) {
            x.toNext();
            due("terms: each rings, at " + (100 + k), x.rung(0), k);
            due("terms: at its tick, timer " + k, x.rungAt(0), 100 + k);
        }
        due("terms: and no other", x.rings(), 16);
    }

    // "all timers that are set for t RING, the one with the least number first"
    private static void termsLeastNumberFirst() {
        TimerWheel x = new TimerWheel();
        // All are set for tick 20, but at other ticks and in another order than their numbers.
        for (int step = 0; step < 16; step++) {
            int k = (step * 5 + 3) % 16;
            x.set(k, 20 - step, k % 2);
            x.pass(1);
        }
        due("terms: none before its tick", x.pass(3), 0);
        due("terms: all at one tick", x.pass(1), 16);
        for (int i = 0; i < 16; i++) {
            due("terms: the least first, rung " + i, x.rung(i), 15 - i);
            due("terms: at one tick, rungAt " + i, x.rungAt(i), 20);
        }
        due("terms: only they", x.rung(16), NONE);

        TimerWheel y = new TimerWheel();
        y.set(15, 1, 0);
        y.set(0, 2, 0);
        due("terms: two ticks, two rings", y.pass(2), 2);
        due("terms: an earlier tick comes before a lesser number", y.rung(1), 15);
        due("terms: a later tick comes after", y.rung(0), 0);
    }

    // "and are not set any more, unless they are REPEATING, with a period: then they are set for t + period"
    private static void termsNotSetAnyMoreUnlessRepeating() {
        TimerWheel x = new TimerWheel();
        x.set(0, 3, 0);
        x.set(1, 3, 1);
        x.set(15, 3, 500);
        due("terms: a tick before, all are set", x.pass(2), 0);
        due("terms: a tick before, timers", x.timers(), 1 | 1 << 1 | 1 << 15);
        due("terms: all ring", x.pass(1), 3);
        due("terms: without a period not set any more", x.timers(), 1 << 1 | 1 << 15);
        due("terms: not set, left", x.left(0), BAD);
        due("terms: least period", x.left(1), 1);
        due("terms: greatest period", x.left(15), 500);
        x.cancel(1);
        due("terms: not before t + 500", x.pass(499), 0);
        due("terms: at t + 500", x.pass(1), 1);
        due("terms: rung at t + 500", x.rungAt(0), 503);
        due("terms: set again after that", x.left(15), 500);
    }

    // "the row keeps the last 20"
    private static void termsRowKeepsTheLast20() {
        TimerWheel x = new TimerWheel();
        x.set(0, 1, 0);
        x.set(5, 2, 1);
        x.pass(20);
        due("terms: 20 rings", x.rings(), 20);
        due("terms: the 20th back is kept", x.rung(19), 0);
        due("terms: with its tick", x.rungAt(19), 1);
        x.pass(1);
        due("terms: 21 rings", x.rings(), 21);
        due("terms: the 21st pushes out the first", x.rung(19), 5);
        due("terms: with its tick too", x.rungAt(19), 2);
        due("terms: and is not to be had", x.rung(20), NONE);

        TimerWheel y = new TimerWheel();
        for (int k = 0; k < 16; k++) {
            y.set(k, 1, 1);
        }
        y.pass(2);
        for (int i = 0; i < 20; i++) {
            due("terms: cut within a tick, rung " + i, y.rung(i), i < 16 ? 15 - i : 31 - i);
            due("terms: cut within a tick, rungAt " + i, y.rungAt(i), i < 16 ? 2 : 1);
        }
        due("terms: the rest of that tick is gone", y.rung(20), NONE);
    }

    // ---- Promise 1 ----

    // "Time 0, no timer is set."
    private static void promise1NoTimerIsSet() {
        TimerWheel x = new TimerWheel();
        due("1: BAD", TimerWheel.BAD, BAD);
        due("1: NONE", TimerWheel.NONE, NONE);
        StringBuilder want = new StringBuilder("now 0 timers 0 next -2 rings 0 within 0 0 left/period");
        want.append(" -1/-1".repeat(16)).append(" row").append(" -2@-2".repeat(20));
        String got = allAnswers(x);
        due("1: a new object is " + got + ", as due", flag(got.equals(want.toString())), TRUE);
        due("1: nothing rings", x.pass(1000), 0);
        due("1: still none is set", x.timers(), 0);
        due("1: another new object begins at 0", new TimerWheel().now(), 0);
    }

    // ---- Promise 2 ----

    // "BAD when k is not 0 .. 15"
    private static void promise2TimerBounds() {
        TimerWheel x = new TimerWheel();
        due("2: first timer", x.set(0, 1, 0), 1);
        due("2: last timer", x.set(15, 1, 0), 1);
        due("2: both are set", x.timers(), 1 | 1 << 15);
        refusesTimersOutOfBounds("2: set once", (y, k) -> y.set(k, 1, 0), BAD);
        refusesTimersOutOfBounds("2: set repeating", (y, k) -> y.set(k, 500, 500), BAD);
    }

    // "BAD when .. delay is not 1 .. 500"
    private static void promise2DelayBounds() {
        TimerWheel x = new TimerWheel();
        x.pass(1000);
        due("2: least delay", x.set(0, 1, 0), 1001);
        due("2: greatest delay", x.set(1, 500, 0), 1500);
        due("2: the least rings at the next tick", x.pass(1), 1);
        due("2: the greatest not before its tick", x.pass(498), 0);
        due("2: the greatest at its tick", x.pass(1), 1);
        for (int delay : NO_DELAYS) {
            refused("2: delay " + delay, y -> y.set(0, delay, 0), BAD);
            refused("2: delay " + delay + ", repeating", y -> y.set(15, delay, 7), BAD);
        }
    }

    // "BAD when .. period is not 0 .. 500"
    private static void promise2PeriodBounds() {
        TimerWheel x = new TimerWheel();
        due("2: least period", x.set(0, 1, 0), 1);
        due("2: greatest period", x.set(1, 1, 500), 1);
        due("2: period 0", x.period(0), 0);
        due("2: period 500", x.period(1), 500);
        for (int period : NO_PERIODS) {
            refused("2: period " + period, y -> y.set(0, 1, period), BAD);
            refused("2: period " + period + ", greatest delay", y -> y.set(15, 500, period), BAD);
        }
    }

    // "BAD when k is not 0 .. 15, delay is not 1 .. 500 or period is not 0 .. 500": one of them is enough.
    private static void promise2BoundsTogether() {
        int[] timers = {-1, 0, 15, 16};
        int[] delays = {0, 1, 500, 501};
        int[] periods = {-1, 0, 500, 501};
        for (int a = 0; a < 4; a++) {
            for (int b = 0; b < 4; b++) {
                for (int c = 0; c < 4; c++) {
                    TimerWheel x = new TimerWheel();
                    boolean taken = isInner(a) && isInner(b) && isInner(c);
                    String call = "2: set(" + timers[a] + ", " + delays[b] + ", " + periods[c] + ")";
                    due(call, x.set(timers[a], delays[b], periods[c]), taken ? delays[b] : BAD);
                    due(call + ", timers", x.timers(), taken ? 1 << timers[a] : 0);
                }
            }
        }
    }

    private static boolean isInner(int place) {
        return place == 1 || place == 2;
    }

    // "Sets timer k, in place of what it was set for"
    private static void promise2InPlaceOfWhatItWasSetFor() {
        int[] delays = {1, 9, 10, 11, 500};
        int[] periods = {0, 1, 500};
        for (int k = 0; k < 16; k += 5) {
            for (int delay : delays) {
                for (int oldPeriod : periods) {
                    for (int period : periods) {
                        setInPlace(k, oldPeriod, delay, period);
                    }
                }
            }
        }
    }

    private static void setInPlace(int k, int oldPeriod, int delay, int period) {
        String what = "2: set " + k + ", period " + oldPeriod + ", anew with " + delay + ", " + period;
        TimerWheel x = new TimerWheel();
        x.set(k, 12, oldPeriod);
        x.pass(2);
        due(what, x.set(k, delay, period), 2 + delay);
        due(what + ", timers", x.timers(), 1 << k);
        due(what + ", left", x.left(k), delay);
        due(what + ", period", x.period(k), period);
        due(what + ", not at the old tick", x.pass(delay - 1), 0);
        due(what + ", at the new tick", x.pass(1), 1);
        due(what + ", and then only as now set", x.pass(600), period == 0 ? 0 : 600 / period);
    }

    private static void promise2RefusedKeepsWhatItWasSetFor() {
        TimerWheel x = new TimerWheel();
        x.set(4, 10, 3);
        due("2: refused by delay 0", x.set(4, 0, 0), BAD);
        due("2: refused by delay 501", x.set(4, 501, 0), BAD);
        due("2: refused by period -1", x.set(4, 1, -1), BAD);
        due("2: refused by period 501", x.set(4, 1, 501), BAD);
        due("2: the old tick stays", x.left(4), 10);
        due("2: the old period stays", x.period(4), 3);
        due("2: rings at 10, 13, 16", x.pass(16), 3);
    }

    // "once (period 0) or with a period"
    private static void promise2OnceOrWithAPeriod() {
        TimerWheel once = new TimerWheel();
        once.set(0, 1, 0);
        due("2: once", once.pass(1000), 1);
        due("2: not set any more", once.timers(), 0);
        due("2: and never again", once.pass(1000), 0);

        TimerWheel always = new TimerWheel();
        always.set(0, 500, 1);
        due("2: period 1 waits for its delay", always.pass(499), 0);
        due("2: period 1 rings at every tick", always.pass(501), 501);

        TimerWheel seldom = new TimerWheel();
        seldom.set(0, 1, 500);
        due("2: period 500, at 1", seldom.pass(1), 1);
        due("2: period 500, not at 2 .. 500", seldom.pass(499), 0);
        due("2: period 500, at 501", seldom.pass(1), 1);
        due("2: period 500, at 1001 and 1501", seldom.pass(1000), 2);
    }

    // ---- Promise 3 ----

    // "answers the number of ticks after which it would have rung"
    private static void promise3TicksItWouldHaveRungAfter() {
        TimerWheel x = new TimerWheel();
        x.set(0, 500, 0);
        due("3: greatest", x.cancel(0), 500);
        x.set(0, 500, 0);
        x.set(15, 500, 1);
        x.pass(499);
        due("3: least, a tick before", x.cancel(0), 1);
        due("3: the other stays", x.timers(), 1 << 15);
        due("3: only the other rings", x.pass(1), 1);
        due("3: repeating, least period", x.cancel(15), 1);
        due("3: none rings", x.pass(1000), 0);
        x.set(15, 1, 500);
        x.pass(1);
        due("3: repeating, greatest period, as it rang", x.cancel(15), 500);
        due("3: it does not repeat", x.pass(1000), 0);
        due("3: set anew", x.set(15, 2, 0), x.now() + 2);
    }

    // "BAD when it is not set"
    private static void promise3NotSet() {
        refusesTimersNotSet("3: cancel", (x, k) -> x.cancel(k), BAD);
        TimerWheel x = new TimerWheel();
        x.set(6, 5, 5);
        due("3: set", x.cancel(6), 5);
        due("3: a second time", x.cancel(6), BAD);
    }

    // "BAD when .. k is not 0 .. 15"
    private static void promise3TimerBounds() {
        TimerWheel x = State.FULL.make();
        due("3: first timer", x.cancel(0), 1);
        due("3: first timer is gone", x.timers(), 0xFFFE);
        int left = x.left(15);
        due("3: last timer", x.cancel(15), left);
        due("3: last timer is gone", x.timers(), 0x7FFE);
        refusesTimersOutOfBounds("3: cancel", (y, k) -> y.cancel(k), BAD);
    }

    // ---- Promise 4 ----

    // "BAD, changing nothing, when n is not 0 .. 1000."
    private static void promise4TickBounds() {
        TimerWheel x = new TimerWheel();
        x.set(0, 1, 1);
        due("4: least", x.pass(0), 0);
        due("4: no tick, no time", x.now(), 0);
        due("4: no tick, no ring", x.rings(), 0);
        due("4: greatest", x.pass(1000), 1000);
        due("4: greatest, time", x.now(), 1000);
        due("4: no tick rings none again", x.pass(0), 0);
        due("4: greatest again", x.pass(1000), 1000);
        for (State state : State.values()) {
            TimerWheel none = state.make();
            due("4: pass(0) in state " + state, none.pass(0), 0);
            same("4: pass(0) in state " + state, none, state.make());
        }
        for (int n : NO_TICKS) {
            refused("4: pass " + n, y -> y.pass(n), BAD);
        }
    }

    // "Lets n ticks pass, one after the other, and answers how often a timer has rung"
    private static void promise4OneAfterTheOther() {
        TimerWheel x = new TimerWheel();
        x.set(3, 10, 0);
        due("4: one tick too few", x.pass(9), 0);
        due("4: the last tick counts", x.pass(1), 1);
        due("4: one tick more", x.pass(1), 0);

        TimerWheel y = new TimerWheel();
        y.set(2, 2, 2);
        y.set(1, 3, 3);
        due("4: at 2, 4, 6 and 3, 6", y.pass(6), 5);
        int[] timers = {2, 1, 2, 1, 2};
        int[] ticks = {6, 6, 4, 3, 2};
        for (int i = 0; i < 5; i++) {
            due("4: in order, rung " + i, y.rung(i), timers[i]);
            due("4: in order, rungAt " + i, y.rungAt(i), ticks[i]);
        }

        TimerWheel all = new TimerWheel();
        for (int k = 0; k < 16; k++) {
            all.set(k, 1, 1);
        }
        due("4: most rings that a call can have", all.pass(1000), 16000);
    }

    // ---- Promise 5 ----

    // "up to the next one at which some timer rings (this included)"
    private static void promise5ThisIncluded() {
        TimerWheel x = new TimerWheel();
        x.set(0, 7, 0);
        x.set(9, 7, 1);
        x.set(15, 8, 0);
        due("5: to 7", x.toNext(), 7);
        due("5: the time is that tick", x.now(), 7);
        due("5: all of that tick have rung", x.rings(), 2);
        due("5: rung at that tick", x.rungAt(0), 7);
        due("5: what rang is not set any more", x.timers(), 1 << 9 | 1 << 15);
        due("5: the tick after has not been", x.left(15), 1);
        due("5: least, the tick after", x.toNext(), 1);
        due("5: both of that tick", x.rings(), 4);
        x.cancel(9);
        x.set(3, 500, 500);
        due("5: greatest delay", x.toNext(), 500);
        due("5: greatest period", x.toNext(), 500);
        due("5: a ring each", x.rings(), 6);
        x.set(4, 499, 0);
        due("5: the nearer one", x.toNext(), 499);
        due("5: then the farther one", x.toNext(), 1);
    }

    // "NONE, changing nothing, when no timer is set."
    private static void promise5NoTimerIsSet() {
        refusedIn(State.NEW, "5: toNext", x -> x.toNext(), NONE);
        refusedIn(State.RUN_OUT, "5: toNext", x -> x.toNext(), NONE);
        TimerWheel x = new TimerWheel();
        x.set(0, 1, 1);
        x.cancel(0);
        due("5: the only one cancelled", x.toNext(), NONE);
        due("5: no time has passed", x.now(), 0);
        x.set(15, 1, 0);
        due("5: one is enough", x.toNext(), 1);
        due("5: it rang once", x.toNext(), NONE);
        due("5: again no time has passed", x.now(), 1);
        due("5: again none rang", x.rings(), 1);
    }

    // ---- Promise 6 ----

    // "The time.": only pass and toNext change it.
    private static void promise6TheTime() {
        TimerWheel x = new TimerWheel();
        due("6: at first", x.now(), 0);
        x.pass(0);
        due("6: no tick", x.now(), 0);
        x.pass(1);
        due("6: a tick", x.now(), 1);
        x.pass(1000);
        due("6: most ticks", x.now(), 1001);
        x.set(0, 500, 0);
        x.repeat(0, 500);
        due("6: setting takes no time", x.now(), 1001);
        x.toNext();
        due("6: toNext", x.now(), 1501);
        x.cancel(0);
        due("6: cancelling takes no time", x.now(), 1501);
    }

    // ---- Promise 7 ----

    // "The timers that are set: bit k for timer k."
    private static void promise7BitKForTimerK() {
        TimerWheel all = new TimerWheel();
        due("7: none", all.timers(), 0);
        for (int k = 0; k < 16; k++) {
            TimerWheel x = new TimerWheel();
            x.set(k, 1, 0);
            due("7: only " + k, x.timers(), 1 << k);
            x.pass(1);
            due("7: only " + k + ", rung", x.timers(), 0);
            all.set(k, 500, 0);
        }
        due("7: all", all.timers(), 65535);
        for (int k = 0; k < 16; k++) {
            all.cancel(k);
            due("7: all but " + k, all.timers(), 65535 - (1 << k));
            all.set(k, 500, 1);
        }
        all.pass(500);
        due("7: all repeating, rung", all.timers(), 65535);
    }

    // ---- Promise 8 ----

    // "The number of ticks until timer k rings"
    private static void promise8TicksUntilItRings() {
        TimerWheel x = new TimerWheel();
        x.set(0, 500, 0);
        x.set(15, 1, 500);
        due("8: greatest", x.left(0), 500);
        due("8: least", x.left(15), 1);
        x.pass(1);
        due("8: a tick less", x.left(0), 499);
        due("8: greatest period", x.left(15), 500);
        x.pass(498);
        due("8: a tick before", x.left(0), 1);
        x.pass(1);
        due("8: rung", x.left(0), BAD);
        x.set(0, 1, 1);
        x.pass(1);
        due("8: repeating, never 0", x.left(0), 1);
    }

    // "BAD when it is not set"
    private static void promise8NotSet() {
        refusesTimersNotSet("8: left", (x, k) -> x.left(k), BAD);
    }

    // "BAD when .. k is not 0 .. 15"
    private static void promise8TimerBounds() {
        TimerWheel x = new TimerWheel();
        x.set(0, 30, 0);
        x.set(15, 40, 0);
        due("8: first timer", x.left(0), 30);
        due("8: last timer", x.left(15), 40);
        refusesTimersOutOfBounds("8: left", (y, k) -> y.left(k), BAD);
    }

    // ---- Promise 9 ----

    // "(of several at one tick the least)"
    private static void promise9OfSeveralTheLeast() {
        for (int less = 0; less < 15; less++) {
            for (int more = less + 1; more < 16; more++) {
                String pair = "9: " + less + " and " + more;
                TimerWheel x = new TimerWheel();
                x.set(more, 5, 0);
                due(pair + ", the only one", x.next(), more);
                x.set(less, 6, 0);
                due(pair + ", the lesser a tick later", x.next(), more);
                x.pass(1);
                x.set(less, 4, 0);
                due(pair + ", at one tick", x.next(), less);
                x.set(more, 3, 0);
                due(pair + ", the greater a tick sooner", x.next(), more);
            }
        }
        TimerWheel all = new TimerWheel();
        for (int k = 15; k >= 0; k--) {
            all.set(k, 500, 0);
            due("9: all down to " + k, all.next(), k);
        }
        TimerWheel meeting = new TimerWheel();
        meeting.set(8, 1, 2);
        meeting.set(5, 3, 0);
        meeting.pass(1);
        due("9: a repeating one meets another", meeting.next(), 5);
    }

    // "NONE when none is set."
    private static void promise9NoneIsSet() {
        refusedIn(State.NEW, "9: next", x -> x.next(), NONE);
        refusedIn(State.RUN_OUT, "9: next", x -> x.next(), NONE);
        TimerWheel x = new TimerWheel();
        x.set(0, 500, 0);
        due("9: timer 0 is not none", x.next(), 0);
        x.cancel(0);
        due("9: the only one cancelled", x.next(), NONE);
        x.set(15, 1, 0);
        due("9: the last timer", x.next(), 15);
        x.pass(1);
        due("9: the only one has rung", x.next(), NONE);
    }

    // ---- Promise 10 ----

    // "The number of timers that ring .. within the next n ticks."
    private static void promise10WithinTheNextTicks() {
        TimerWheel x = new TimerWheel();
        due("10: none set", x.within(500), 0);
        x.set(0, 1, 0);
        x.set(7, 250, 0);
        x.set(15, 500, 0);
        due("10: no tick", x.within(0), 0);
        due("10: the first tick", x.within(1), 1);
        due("10: a tick short", x.within(249), 1);
        due("10: the last tick counts", x.within(250), 2);
        due("10: a tick short of the greatest delay", x.within(499), 2);
        due("10: the greatest delay", x.within(500), 3);
        x.pass(1);
        due("10: what has rung does not count", x.within(500), 2);
        due("10: counted from now, a tick short", x.within(248), 0);
        due("10: counted from now", x.within(249), 1);
        x.cancel(7);
        due("10: what is cancelled does not count", x.within(500), 1);
        TimerWheel all = new TimerWheel();
        for (int k = 0; k < 16; k++) {
            all.set(k, 500, 0);
        }
        due("10: all, a tick short", all.within(499), 0);
        due("10: all", all.within(500), 16);
    }

    // "(for the first time)": a timer counts once, however often it rings in these ticks.
    private static void promise10ForTheFirstTime() {
        TimerWheel x = new TimerWheel();
        x.set(0, 2, 1);
        due("10: repeating, before", x.within(1), 0);
        due("10: repeating, once", x.within(2), 1);
        due("10: repeating, many rings", x.within(1000), 1);
        x.pass(2);
        due("10: repeating, from ring to ring", x.within(1), 1);
        due("10: repeating, many more rings", x.within(1000), 1);
        x.repeat(0, 0);
        due("10: once more", x.within(1000), 1);
    }

    // No bound is named for n, so none is refused: below 1 there is no tick, and a great n reaches every timer.
    private static void promise10AnyNumberOfTicks() {
        int[] noTick = {0, -1, -500, MIN + 1, MIN};
        int[] allTicks = {500, 501, 1000, 1001, 65536, MAX - 1000, MAX - 1, MAX};
        for (State state : State.values()) {
            TimerWheel x = state.make();
            for (int n : noTick) {
                due("10: within " + n + " in state " + state, x.within(n), 0);
            }
            for (int n : allTicks) {
                due("10: within " + n + " in state " + state, x.within(n), Integer.bitCount(state.timers));
            }
            same("10: asking in state " + state, x, state.make());
        }
    }

    // ---- Promise 11 ----

    // "How often timers have rung so far, all together.": the row's end is no end to the count.
    private static void promise11AllTogether() {
        TimerWheel x = new TimerWheel();
        due("11: at first", x.rings(), 0);
        x.set(0, 1, 1);
        for (int n = 1; n <= 41; n++) {
            x.pass(1);
            due("11: rings", x.rings(), n);
        }
        x.set(15, 1, 0);
        x.toNext();
        due("11: two at one tick", x.rings(), 43);
        x.cancel(0);
        x.set(0, 1, 0);
        due("11: cancel and set take none away", x.rings(), 43);
    }

    // ---- Promises 12 and 13 ----

    // "NONE when .. there were not so many."
    private static void promise12NotSoMany() {
        for (int rings = 0; rings <= 45; rings++) {
            TimerWheel x = afterRings(rings);
            int kept = rings < 20 ? rings : 20;
            for (int i = 0; i < kept; i++) {
                due("12: after " + rings + " rings, rung " + i, x.rung(i), timerOfRing(rings - i));
            }
            for (int i = kept; i <= 41; i++) {
                due("12: after " + rings + " rings, rung " + i, x.rung(i), NONE);
            }
        }
    }

    // "NONE as in rung."
    private static void promise13NotSoMany() {
        for (int rings = 0; rings <= 45; rings++) {
            TimerWheel x = afterRings(rings);
            int kept = rings < 20 ? rings : 20;
            for (int i = 0; i < kept; i++) {
                due("13: after " + rings + " rings, rungAt " + i, x.rungAt(i), 3 * (rings - i));
            }
            for (int i = kept; i <= 41; i++) {
                due("13: after " + rings + " rings, rungAt " + i, x.rungAt(i), NONE);
            }
        }
    }

    // A ring every third tick, so that no tick can be taken for a number of rings.
    private static TimerWheel afterRings(int rings) {
        TimerWheel x = new TimerWheel();
        for (int n = 1; n <= rings; n++) {
            x.set(timerOfRing(n), 3, 0);
            x.pass(3);
        }
        x.pass(2);
        return x;
    }

    private static int timerOfRing(int n) {
        return n * 7 % 16;
    }

    // "NONE when i is not 0 .. 19"
    private static void promise12PlaceBounds() {
        TimerWheel x = afterRings(45);
        due("12: first place", x.rung(0), timerOfRing(45));
        due("12: last place", x.rung(19), timerOfRing(26));
        for (int i : NO_PLACES) {
            refused("12: rung " + i, y -> y.rung(i), NONE);
        }
    }

    // "NONE as in rung."
    private static void promise13PlaceBounds() {
        TimerWheel x = afterRings(45);
        due("13: first place", x.rungAt(0), 3 * 45);
        due("13: last place", x.rungAt(19), 3 * 26);
        for (int i : NO_PLACES) {
            refused("13: rungAt " + i, y -> y.rungAt(i), NONE);
        }
    }

    // ---- Promise 14 ----

    // "another period (0 for none)"
    private static void promise14ZeroForNone() {
        TimerWheel x = new TimerWheel();
        x.set(3, 4, 2);
        due("14: to none", flag(x.repeat(3, 0)), TRUE);
        due("14: still set", x.left(3), 4);
        due("14: period", x.period(3), 0);
        due("14: rings once", x.pass(1000), 1);
        due("14: at its tick", x.rungAt(0), 4);
        due("14: not set any more", x.timers(), 0);
        x.set(3, 4, 0);
        due("14: none to none", flag(x.repeat(3, 0)), TRUE);
        due("14: from none", flag(x.repeat(3, 1)), TRUE);
        due("14: to the same", flag(x.repeat(3, 1)), TRUE);
        due("14: at every tick from the 4th", x.pass(10), 7);
        due("14: to none, between rings", flag(x.repeat(3, 0)), TRUE);
        due("14: once more", x.pass(1000), 1);
    }

    // "without changing when it rings next"
    private static void promise14WithoutChangingWhenItRingsNext() {
        int[] delays = {1, 2, 250, 499, 500};
        int[] periods = {0, 1, 2, 249, 250, 251, 499, 500};
        for (int delay : delays) {
            for (int period : periods) {
                String what = "14: repeat " + period + ", " + delay + " ticks left";
                TimerWheel x = new TimerWheel();
                x.set(2, 7, delay);
                x.set(11, 7, delay);
                x.pass(7);
                due(what, flag(x.repeat(11, period)), TRUE);
                due(what + ", left", x.left(11), delay);
                due(what + ", period", x.period(11), period);
                due(what + ", the other's period", x.period(2), delay);
                x.cancel(2);
                due(what + ", to its ring", x.toNext(), delay);
                due(what + ", after it", x.left(11), period == 0 ? BAD : period);
            }
        }
    }

    // "false when it is not set"
    private static void promise14NotSet() {
        refusesTimersNotSet("14: repeat 0", (x, k) -> flag(x.repeat(k, 0)), FALSE);
        refusesTimersNotSet("14: repeat 1", (x, k) -> flag(x.repeat(k, 1)), FALSE);
        refusesTimersNotSet("14: repeat 500", (x, k) -> flag(x.repeat(k, 500)), FALSE);
        TimerWheel x = new TimerWheel();
        due("14: never set", flag(x.repeat(0, 5)), FALSE);
        x.set(0, 2, 0);
        due("14: a refused period does not wait for set", x.period(0), 0);
    }

    // A timer out of 0 .. 15 is not set either.
    private static void promise14TimerBounds() {
        TimerWheel x = State.FULL.make();
        due("14: first timer", flag(x.repeat(0, 77)), TRUE);
        due("14: last timer", flag(x.repeat(15, 88)), TRUE);
        due("14: first timer's period", x.period(0), 77);
        due("14: last timer's period", x.period(15), 88);
        refusesTimersOutOfBounds("14: repeat", (y, k) -> flag(y.repeat(k, 4)), FALSE);
    }

    // "false when .. period is not 0 .. 500."
    private static void promise14PeriodBounds() {
        TimerWheel x = new TimerWheel();
        x.set(0, 9, 9);
        due("14: greatest", flag(x.repeat(0, 500)), TRUE);
        due("14: greatest, period", x.period(0), 500);
        due("14: one too great", flag(x.repeat(0, 501)), FALSE);
        due("14: one too great, period", x.period(0), 500);
        due("14: least", flag(x.repeat(0, 0)), TRUE);
        due("14: least, period", x.period(0), 0);
        due("14: one too small", flag(x.repeat(0, -1)), FALSE);
        due("14: one too small, period", x.period(0), 0);
        for (int period : NO_PERIODS) {
            refused("14: timer 0, period " + period, y -> flag(y.repeat(0, period)), FALSE);
            refused("14: timer 15, period " + period, y -> flag(y.repeat(15, period)), FALSE);
        }
    }

    // ---- Promise 15 ----

    // "0 when it rings once"
    private static void promise15ZeroWhenItRingsOnce() {
        TimerWheel x = new TimerWheel();
        x.set(0, 2, 0);
        x.set(1, 2, 1);
        x.set(2, 2, 500);
        due("15: once", x.period(0), 0);
        due("15: least", x.period(1), 1);
        due("15: greatest", x.period(2), 500);
        x.pass(2);
        due("15: rung once", x.period(0), BAD);
        due("15: least, rung", x.period(1), 1);
        due("15: greatest, rung", x.period(2), 500);
        x.repeat(2, 0);
        due("15: once from now on", x.period(2), 0);
        x.set(1, 2, 0);
        due("15: set anew, once", x.period(1), 0);
    }

    // "BAD when it is not set"
    private static void promise15NotSet() {
        refusesTimersNotSet("15: period", (x, k) -> x.period(k), BAD);
    }

    // "BAD when .. k is not 0 .. 15"
    private static void promise15TimerBounds() {
        TimerWheel x = new TimerWheel();
        x.set(0, 1, 30);
        x.set(15, 1, 40);
        due("15: first timer", x.period(0), 30);
        due("15: last timer", x.period(15), 40);
        refusesTimersOutOfBounds("15: period", (y, k) -> y.period(k), BAD);
    }

    // ---- Promise 16 ----

    // "a call that is refused (by a code below 0 that is named, or by false) changes nothing"
    // Each refusal by itself stands with its promise above; here many follow one another on one object.
    private static void promise16RefusedOneAfterTheOther() {
        for (State state : State.values()) {
            TimerWheel x = state.make();
            TimerWheel twin = state.make();
            for (int k : new int[] {-1, 16}) {
                due("16: set", x.set(k, 5, 5), BAD);
                due("16: cancel", x.cancel(k), BAD);
                due("16: left", x.left(k), BAD);
                due("16: period", x.period(k), BAD);
                due("16: repeat", flag(x.repeat(k, 5)), FALSE);
            }
            for (int k = 0; k < 16; k++) {
                due("16: set, no delay", x.set(k, 0, 5), BAD);
                due("16: set, delay", x.set(k, 501, 5), BAD);
                due("16: set, no period", x.set(k, 5, -1), BAD);
                due("16: set, period", x.set(k, 5, 501), BAD);
                due("16: repeat, no period", flag(x.repeat(k, -1)), FALSE);
                due("16: repeat, period", flag(x.repeat(k, 501)), FALSE);
            }
            due("16: pass -1", x.pass(-1), BAD);
            due("16: pass 1001", x.pass(1001), BAD);
            due("16: rung", x.rung(20), NONE);
            due("16: rungAt", x.rungAt(-1), NONE);
            same("16: all refusals in state " + state, x, twin);
            due("16: what rings after them", x.pass(1000), twin.pass(1000));
            same("16: all refusals in state " + state + " and 1000 ticks", x, twin);
        }
    }
}
