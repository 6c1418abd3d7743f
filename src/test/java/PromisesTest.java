// One method or more for each of promises 1 to 15: how the calls work together in ordinary use, with the nearest edges.
// The sentences that name a boundary case, promise 16 among them, have a test each in BoundariesTest.
public final class PromisesTest {
    private static final int BAD = -1;
    private static final int NONE = -2;
    private static final int MIN = Integer.MIN_VALUE;
    private static final int MAX = Integer.MAX_VALUE;

    private static int wrong = 0;

    public static void main(String[] args) {
        promise1NewObject();
        promise2Set();
        promise2SetInPlaceOfOldSetting();
        promise3Cancel();
        promise4Pass();
        promise4RingOrder();
        promise4Repeating();
        promise5ToNext();
        promise6Now();
        promise7Timers();
        promise8Left();
        promise9Next();
        promise10Within();
        promise11Rings();
        promise12Rung();
        promise13RungAt();
        promise14Repeat();
        promise15Period();
        objectsAreApart();
        readmeExample();
        System.out.println(wrong == 0 ? "all answers are as due" : wrong + " answers are not as due");
        if (wrong != 0) {
            System.exit(1);
        }
    }

    private static void due(String what, long got, long want) {
        if (got != want) {
            wrong++;
            System.out.println(what + " answered " + got + ", due is " + want);
        }
    }

    private static void due(String what, boolean got, boolean want) {
        due(what, got ? 1L : 0L, want ? 1L : 0L);
    }

    private static void promise1NewObject() {
        TimerWheel x = new TimerWheel();
        due("1: BAD", TimerWheel.BAD, BAD);
        due("1: NONE", TimerWheel.NONE, NONE);
        due("1: now", x.now(), 0);
        due("1: timers", x.timers(), 0);
        due("1: rings", x.rings(), 0);
        due("1: next", x.next(), NONE);
        due("1: within", x.within(MAX), 0);
        for (int k = 0; k < 16; k++) {
            due("1: left " + k, x.left(k), BAD);
            due("1: period " + k, x.period(k), BAD);
        }
        for (int i = 0; i < 20; i++) {
            due("1: rung " + i, x.rung(i), NONE);
            due("1: rungAt " + i, x.rungAt(i), NONE);
        }
        due("1: nothing rings by itself", x.pass(1000), 0);
    }

    private static void promise2Set() {
        TimerWheel x = new TimerWheel();
        due("2: least delay", x.set(0, 1, 0), 1);
        due("2: greatest delay and period", x.set(15, 500, 500), 500);
        due("2: period 0 is once", x.period(0), 0);
        due("2: period 500", x.period(15), 500);
        due("2: first ring", x.pass(1), 1);
        due("2: delay counts from now", x.set(7, 10, 1), 11);
        due("2: period 1", x.period(7), 1);
        due("2: timers", x.timers(), (1 << 7) | (1 << 15));
        due("2: not early", x.pass(9), 0);
        due("2: on its tick", x.pass(1), 1);
        due("2: again after a period", x.pass(1), 1);
    }

    private static void promise2SetInPlaceOfOldSetting() {
        TimerWheel x = new TimerWheel();
        x.set(4, 10, 5);
        due("2: later in place", x.set(4, 20, 0), 20);
        due("2: the old period is gone", x.period(4), 0);
        due("2: the old tick is gone", x.pass(19), 0);
        due("2: the new tick", x.pass(1), 1);
        due("2: once", x.timers(), 0);
        x.set(4, 20, 0);
        due("2: sooner in place", x.set(4, 2, 3), 22);
        due("2: rings at 22, 25, 28", x.pass(8), 3);
        due("2: in place of a repeating one", x.set(4, 7, 0), 35);
        due("2: only the new setting rings", x.pass(500), 1);
        due("2: set anew after it rang", x.set(4, 1, 0), 529);
    }

    private static void promise3Cancel() {
        TimerWheel x = new TimerWheel();
        x.set(0, 10, 0);
        x.set(15, 12, 4);
        x.pass(3);
        due("3: ticks left", x.cancel(0), 7);
        due("3: not set any more", x.cancel(0), BAD);
        due("3: the others stay", x.timers(), 1 << 15);
        due("3: it does not ring", x.pass(8), 0);
        due("3: repeating, before its first ring", x.cancel(15), 1);
        due("3: none left", x.timers(), 0);
        x.set(15, 1, 4);
        x.pass(2);
        due("3: repeating, between rings", x.cancel(15), 3);
        due("3: it does not repeat", x.pass(100), 0);
        x.set(2, 1, 0);
        x.pass(1);
        due("3: has rung once, not set", x.cancel(2), BAD);
        due("3: never set", x.cancel(9), BAD);
        x.set(0, 500, 0);
        x.set(15, 500, 0);
        int[] wrongTimers = {-1, 16, 32, MIN, MAX};
        for (int k : wrongTimers) {
            due("3: timer " + k, x.cancel(k), BAD);
        }
        due("3: refused, all stay", x.timers(), 1 | (1 << 15));
        due("3: greatest", x.cancel(0), 500);
    }

    private static void promise4Pass() {
        TimerWheel x = new TimerWheel();
        x.set(0, 1, 0);
        due("4: no tick", x.pass(0), 0);
        due("4: no tick, no time", x.now(), 0);
        due("4: one tick", x.pass(1), 1);
        due("4: rung once, not set", x.left(0), BAD);
        due("4: no second ring", x.pass(1000), 0);
        due("4: time", x.now(), 1001);
        x.set(0, 500, 0);
        due("4: a tick short", x.pass(499), 0);
        due("4: the last tick counts", x.pass(1), 1);
        for (int k = 0; k < 16; k++) {
            x.set(k, 1, 1);
        }
        due("4: all timers at all ticks", x.pass(1000), 16000);
        due("4: no tick rings none again", x.pass(0), 0);
    }

    private static void promise4RingOrder() {
        TimerWheel x = new TimerWheel();
        for (int k = 15; k >= 0; k--) {
            x.set(k, 3, 0);
        }
        due("4: all at one tick", x.pass(3), 16);
        for (int i = 0; i < 16; i++) {
            due("4: the least first, rung " + i, x.rung(i), 15 - i);
            due("4: at one tick, rungAt " + i, x.rungAt(i), 3);
        }
        x.set(1, 2, 0);
        x.set(9, 1, 0);
        x.pass(5);
        due("4: a later tick rings later", x.rung(0), 1);
        due("4: an earlier tick rings earlier", x.rung(1), 9);
    }

    private static void promise4Repeating() {
        TimerWheel x = new TimerWheel();
        x.set(6, 2, 5);
        due("4: at 2, 7, 12", x.pass(12), 3);
        due("4: set for 17", x.left(6), 5);
        due("4: rungAt 0", x.rungAt(0), 12);
        due("4: rungAt 1", x.rungAt(1), 7);
        due("4: rungAt 2", x.rungAt(2), 2);
        due("4: still repeating", x.period(6), 5);
        x.set(7, 500, 500);
        due("4: greatest period", x.pass(1000), 200 + 2);
    }

    private static void promise5ToNext() {
        TimerWheel x = new TimerWheel();
        due("5: none set", x.toNext(), NONE);
        due("5: none set, time", x.now(), 0);
        x.set(3, 500, 0);
        x.set(5, 7, 3);
        x.set(2, 7, 0);
        due("5: to 7", x.toNext(), 7);
        due("5: time 7", x.now(), 7);
        due("5: all of that tick ring", x.rings(), 2);
        due("5: the last is 5", x.rung(0), 5);
        due("5: the first is 2", x.rung(1), 2);
        due("5: to 10, repeating", x.toNext(), 3);
        due("5: one ring", x.rings(), 3);
        x.cancel(5);
        due("5: to 500", x.toNext(), 490);
        due("5: time 500", x.now(), 500);
        due("5: none set any more", x.toNext(), NONE);
        due("5: nothing changes", x.now(), 500);
        due("5: no ring", x.rings(), 4);
        x.set(15, 500, 500);
        due("5: greatest delay", x.toNext(), 500);
        due("5: greatest period", x.toNext(), 500);
        x.set(0, 1, 0);
        due("5: least delay", x.toNext(), 1);
    }

    private static void promise6Now() {
        TimerWheel x = new TimerWheel();
        x.pass(3);
        due("6: after pass", x.now(), 3);
        x.set(0, 4, 0);
        due("6: set takes no time", x.now(), 3);
        x.toNext();
        due("6: after toNext", x.now(), 7);
        x.pass(0);
        due("6: after no tick", x.now(), 7);
        x.pass(1000);
        due("6: after many", x.now(), 1007);
    }

    private static void promise7Timers() {
        TimerWheel x = new TimerWheel();
        int bits = 0;
        for (int k = 0; k < 16; k++) {
            x.set(k, k + 1, 0);
            bits |= 1 << k;
            due("7: set " + k, x.timers(), bits);
        }
        due("7: all", x.timers(), 65535);
        for (int k = 0; k < 16; k++) {
            x.pass(1);
            bits &= ~(1 << k);
            due("7: rung " + k, x.timers(), bits);
        }
        x.set(8, 1, 1);
        x.pass(3);
        due("7: repeating stays", x.timers(), 256);
        x.cancel(8);
        due("7: cancelled", x.timers(), 0);
    }

    private static void promise8Left() {
        TimerWheel x = new TimerWheel();
        x.set(0, 500, 0);
        x.set(15, 2, 9);
        due("8: greatest", x.left(0), 500);
        x.pass(1);
        due("8: a tick later", x.left(0), 499);
        due("8: least", x.left(15), 1);
        x.pass(1);
        due("8: the period after a ring", x.left(15), 9);
        x.pass(498);
        due("8: rung once", x.left(0), BAD);
        due("8: never set", x.left(1), BAD);
        int[] wrongTimers = {-1, 16, 32, MIN, MAX};
        for (int k : wrongTimers) {
            due("8: timer " + k, x.left(k), BAD);
        }
    }

    private static void promise9Next() {
        TimerWheel x = new TimerWheel();
        due("9: none set", x.next(), NONE);
        x.set(9, 500, 0);
        due("9: the only one", x.next(), 9);
        x.set(15, 5, 0);
        due("9: the nearest, not the least", x.next(), 15);
        x.set(12, 5, 0);
        due("9: of two the least", x.next(), 12);
        x.set(0, 6, 0);
        due("9: a later one of less number", x.next(), 12);
        x.pass(5);
        due("9: after they rang", x.next(), 0);
        x.pass(1);
        due("9: after that", x.next(), 9);
        x.cancel(9);
        due("9: none set any more", x.next(), NONE);
        due("9: it takes no time", x.now(), 6);
        x.set(0, 500, 0);
        due("9: timer 0 at 500", x.next(), 0);
    }

    private static void promise10Within() {
        TimerWheel x = new TimerWheel();
        x.set(0, 1, 0);
        x.set(1, 2, 1);
        x.set(2, 500, 0);
        due("10: none in no tick", x.within(0), 0);
        due("10: the last tick counts", x.within(1), 1);
        due("10: two", x.within(2), 2);
        due("10: a repeating one counts once", x.within(499), 2);
        due("10: all", x.within(500), 3);
        due("10: far", x.within(100000), 3);
        due("10: greatest", x.within(MAX), 3);
        due("10: below 0", x.within(-1), 0);
        due("10: least", x.within(MIN), 0);
        due("10: it takes no time", x.now(), 0);
        x.pass(400);
        due("10: later, the repeating one", x.within(99), 1);
        due("10: later, both", x.within(100), 2);
        due("10: later, no wrap-around", x.within(MAX), 2);
        due("10: later, least", x.within(MIN), 0);
    }

    private static void promise11Rings() {
        TimerWheel x = new TimerWheel();
        x.set(0, 1, 0);
        x.set(1, 1, 1);
        due("11: set is no ring", x.rings(), 0);
        x.pass(1);
        due("11: two", x.rings(), 2);
        x.toNext();
        due("11: toNext counts too", x.rings(), 3);
        x.pass(1000);
        due("11: more than the row keeps", x.rings(), 1003);
        x.cancel(1);
        due("11: cancel is no ring", x.rings(), 1003);
        x.set(1, 3, 0);
        x.set(2, 3, 0);
        x.toNext();
        due("11: both of one toNext", x.rings(), 1005);
    }

    private static void promise12Rung() {
        TimerWheel x = new TimerWheel();
        for (int n = 1; n <= 45; n++) {
            x.set(timerOf(n), 1, 0);
            x.pass(1);
            int kept = n < 20 ? n : 20;
            due("12: after " + n + ", the last", x.rung(0), timerOf(n));
            due("12: after " + n + ", the first kept", x.rung(kept - 1), timerOf(n - kept + 1));
            due("12: after " + n + ", before that", x.rung(kept), NONE);
        }
        for (int i = 0; i < 20; i++) {
            due("12: rung " + i, x.rung(i), timerOf(45 - i));
        }
        int[] wrongPlaces = {-1, -20, 20, 21, 40, MIN, MAX};
        for (int i : wrongPlaces) {
            due("12: place " + i, x.rung(i), NONE);
        }
        TimerWheel y = new TimerWheel();
        y.set(0, 1, 1);
        y.pass(19);
        due("12: the 19th back", y.rung(18), 0);
        due("12: not so many", y.rung(19), NONE);
        y.pass(1);
        due("12: just so many", y.rung(19), 0);
        due("12: the row ends", y.rung(20), NONE);
    }

    // Goes through all sixteen timers, in no sorted order.
    private static int timerOf(int n) {
        return n * 7 % 16;
    }

    private static void promise13RungAt() {
        TimerWheel x = new TimerWheel();
        x.set(3, 4, 6);
        due("13: none", x.rungAt(0), NONE);
        x.pass(4);
        due("13: the first", x.rungAt(0), 4);
        due("13: not so many", x.rungAt(1), NONE);
        x.pass(3);
        due("13: does not move with time", x.rungAt(0), 4);
        x.pass(207);
        for (int i = 0; i < 20; i++) {
            due("13: rungAt " + i, x.rungAt(i), 214 - 6 * i);
        }
        x.cancel(3);
        x.set(3, 1, 0);
        due("13: stays when the timer is set anew", x.rungAt(0), 214);
        int[] wrongPlaces = {-1, -20, 20, 21, 40, MIN, MAX};
        for (int i : wrongPlaces) {
            due("13: place " + i, x.rungAt(i), NONE);
        }
    }

    private static void promise14Repeat() {
        TimerWheel x = new TimerWheel();
        x.set(0, 10, 0);
        x.pass(4);
        due("14: from once", x.repeat(0, 3), true);
        due("14: the next ring stays", x.left(0), 6);
        due("14: period", x.period(0), 3);
        due("14: at 10, 13, 16", x.pass(12), 3);
        due("14: greatest", x.repeat(0, 500), true);
        due("14: the next ring stays again", x.left(0), 3);
        x.pass(3);
        due("14: then the new period", x.left(0), 500);
        due("14: to once", x.repeat(0, 0), true);
        due("14: still set", x.left(0), 500);
        due("14: period 0", x.period(0), 0);
        due("14: rings once more", x.pass(1000), 1);
        due("14: not set any more", x.timers(), 0);
        x.set(15, 2, 9);
        due("14: timer 15", x.repeat(15, 1), true);
        due("14: at every tick", x.pass(11), 10);
    }

    private static void promise15Period() {
        TimerWheel x = new TimerWheel();
        x.set(0, 3, 0);
        x.set(1, 3, 1);
        x.set(15, 3, 500);
        due("15: once", x.period(0), 0);
        due("15: least", x.period(1), 1);
        due("15: greatest", x.period(15), 500);
        x.pass(3);
        due("15: rung once", x.period(0), BAD);
        due("15: stays after a ring", x.period(15), 500);
        x.cancel(15);
        due("15: cancelled", x.period(15), BAD);
        due("15: never set", x.period(7), BAD);
        int[] wrongTimers = {-1, 16, 17, 32, MIN, MAX};
        for (int k : wrongTimers) {
            due("15: timer " + k, x.period(k), BAD);
        }
    }

    private static void objectsAreApart() {
        TimerWheel x = new TimerWheel();
        TimerWheel y = new TimerWheel();
        x.set(0, 1, 1);
        x.pass(5);
        due("apart: now", y.now(), 0);
        due("apart: timers", y.timers(), 0);
        due("apart: rings", y.rings(), 0);
        due("apart: rung", y.rung(0), NONE);
    }

    // README.md tells these calls and answers; they change there when they change here.
    private static void readmeExample() {
        TimerWheel wheel = new TimerWheel();
        due("README: set 0", wheel.set(0, 5, 0), 5);
        due("README: set 1", wheel.set(1, 8, 3), 8);
        due("README: pass", wheel.pass(5), 1);
        due("README: toNext", wheel.toNext(), 3);
        due("README: rung", wheel.rung(0), 1);
        due("README: rungAt", wheel.rungAt(0), 8);
        due("README: repeat", wheel.repeat(1, 0), true);
        due("README: cancel", wheel.cancel(1), 3);
    }
}
