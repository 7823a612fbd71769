/** Promise 10: tick. */
public final class TickTest {
    private static final int LAST_TIME = 1000000000;

    public static void main(String[] args) {
        zeroGoesOnByNothing();
        fiftyIsTheMost();
        outOfRangeIsMinusOne();
        outOfRangeChangesNothing();
        aboveTheLastTimeIsMinusOne();
        keysWhoseDeadlineIsTheTime();
        keysWhoseDeadlineWasBefore();
        keysWhoseDeadlineIsStillToCome();
        keysWithoutADeadline();
        howManyKeys();
        expiredKeysAreNothing();
        waitingUntilTheTimeEnds();
        waitingUntilBeforeEnds();
        waitingUntilLaterGoesOn();
        waitingWithoutAnEndGoesOn();
        othersStayAsTheyAre();
        Probe.finish();
    }

    /** "The TIME goes on by n at once ... n is not 0..50": 0 */
    private static void zeroGoesOnByNothing() {
        Probe s = new Probe();
        s.put(0, 1).is(0);
        s.expire(0, 1).is(1);
        s.listen(1, 1, 1, 1).is(Probe.NONE);
        s.tick(0).is(0);
        s.ask(0, 3).is(1);
        s.got(1, 3).is(1);
    }

    /** "n is not 0..50": 50 */
    private static void fiftyIsTheMost() {
        Probe s = new Probe();
        s.put(0, 1).is(0);
        s.expire(0, 100).is(1);
        s.tick(50).is(0);
        s.ask(0, 3).is(50);
        s.tick(51).is(-1);
        s.ask(0, 3).is(50);
    }

    /** "(-1 ... if n is not 0..50" */
    private static void outOfRangeIsMinusOne() {
        Probe s = new Probe();
        for (int n : Probe.outside(51)) {
            s.tick(n).is(-1);
        }
    }

    /** "and nothing changes" */
    private static void outOfRangeChangesNothing() {
        for (int n : Probe.outside(51)) {
            Probe s = new Probe();
            s.put(0, 1).is(0);
            s.expire(0, 1).is(1);
            s.watch(2, 0).is(true);
            s.listen(1, 1, 1, 1).is(Probe.NONE);
            s.tick(n).is(-1);
            s.isNumber(0, 1);
            s.ask(0, 3).is(1);
            s.got(1, 0).is(Probe.WAITING);
            s.got(1, 3).is(1);
            s.deceived(2, false);
            s.tick(1).is(1);
        }
    }

    /**
     * "or the TIME would be above 1000000000": 512 calls do not lead there, so this one test takes the
     * program at more than it must keep.
     */
    private static void aboveTheLastTimeIsMinusOne() {
        WaitingStore store = new WaitingStore();
        for (int time = 0; time < LAST_TIME - 50; time += 50) {
            store.tick(50);
        }
        store.command(0, Probe.PUT, 0, 5, 0);
        store.command(0, Probe.EXPIRE, 0, 100, 0);
        store.listen(1, 1, 1, 50);
        due("tick(49) to 1 before the last", store.tick(49), 0);
        due("tick(2) to 1 above the last", store.tick(2), -1);
        due("tick(50) to 49 above the last", store.tick(50), -1);
        due("the deadline stays", store.ask(0, 3), 51);
        due("the end of waiting stays", store.got(1, 3), 1);
        due("tick(1) to the last", store.tick(1), 0);
        due("the deadline comes nearer", store.ask(0, 3), 50);
        due("waiting ends", store.got(1, 0), Probe.READY);
        due("tick(1) above the last", store.tick(1), -1);
        due("tick(0) at the last", store.tick(0), 0);
        due("the deadline is still to come", store.ask(0, 3), 50);
        due("a deadline after the last", store.command(0, Probe.EXPIRE, 0, 100, 0), 1);
        due("its time left", store.ask(0, 3), 100);
    }

    private static void due(String what, long got, long want) {
        Probe.compare(got == want, what + ": " + got + ", due is " + want);
    }

    /** "Then keys whose deadline is the TIME or before are NOTHING": the TIME */
    private static void keysWhoseDeadlineIsTheTime() {
        Probe s = new Probe();
        s.put(0, 1).is(0);
        s.expire(0, 10).is(1);
        s.tick(9).is(0);
        s.isNumber(0, 1);
        s.tick(1).is(1);
        s.isNothing(0);
    }

    /** "the TIME or before": before, by one and by many. */
    private static void keysWhoseDeadlineWasBefore() {
        Probe s = new Probe();
        s.put(0, 1).is(0);
        s.put(7, 1).is(0);
        s.expire(0, 10).is(1);
        s.expire(7, 1).is(1);
        s.tick(11).is(2);
        s.isNothing(0);
        s.isNothing(7);
    }

    private static void keysWhoseDeadlineIsStillToCome() {
        Probe s = new Probe();
        s.put(0, 1).is(0);
        s.put(1, 1).is(0);
        s.expire(0, 10).is(1);
        s.expire(1, 11).is(1);
        s.tick(10).is(1);
        s.isNumber(1, 1);
        s.ask(1, 3).is(1);
    }

    private static void keysWithoutADeadline() {
        Probe s = new Probe();
        s.put(0, 1).is(0);
        s.put(1, 1).is(0);
        s.expire(1, 10).is(1);
        s.expire(1, 0).is(1);
        s.tick(50).is(0);
        s.tick(50).is(0);
        s.isNumber(0, 1);
        s.isNumber(1, 1);
    }

    /** "How many keys that were.": none, some and all. */
    private static void howManyKeys() {
        Probe s = new Probe();
        s.tick(1).is(0);
        for (int key = 0; key < 8; key++) {
            s.put(key, 1).is(0);
            s.expire(key, 10 * key).is(1);
        }
        s.tick(9).is(0);
        s.tick(1).is(1);
        s.tick(0).is(0);
        s.tick(25).is(2);
        s.tick(50).is(4);
        s.tick(50).is(0);
        for (int key = 0; key < 8; key++) {
            s.put(key, 1).is(0);
            s.expire(key, 5).is(1);
        }
        s.tick(5).is(8);
    }

    /** "are NOTHING": whatever they were. */
    private static void expiredKeysAreNothing() {
        Probe s = new Probe();
        s.put(0, 1).is(0);
        s.fillUp(1);
        s.rankUp(2);
        for (int key = 0; key < 3; key++) {
            s.expire(key, 3).is(1);
        }
        s.tick(4).is(3);
        for (int key = 0; key < 3; key++) {
            s.isNothing(key);
            s.back(key, 9).is(1);
            s.isList(key, 9);
        }
        s.between(2, Probe.LOW, Probe.HIGH).is(0);
        s.tick(50).is(0);
    }

    /** "and then clients that wait until the TIME or before are READY": the TIME */
    private static void waitingUntilTheTimeEnds() {
        Probe s = new Probe();
        for (int client = 0; client < 4; client++) {
            s.listen(client, 0, 0, 10).is(Probe.NONE);
        }
        s.tick(9).is(0);
        for (int client = 0; client < 4; client++) {
            s.got(client, 0).is(Probe.WAITING);
        }
        s.tick(1).is(0);
        for (int client = 0; client < 4; client++) {
            s.got(client, 0).is(Probe.READY);
        }
    }

    /** "the TIME or before": before. */
    private static void waitingUntilBeforeEnds() {
        Probe s = new Probe();
        s.listen(0, 0, 0, 10).is(Probe.NONE);
        s.listen(1, 0, 0, 1).is(Probe.NONE);
        s.tick(11).is(0);
        s.got(0, 0).is(Probe.READY);
        s.got(1, 0).is(Probe.READY);
        s.fill(0, 5);
        s.isList(0, 5);
    }

    private static void waitingUntilLaterGoesOn() {
        Probe s = new Probe();
        s.listen(0, 0, 0, 10).is(Probe.NONE);
        s.listen(1, 0, 0, 11).is(Probe.NONE);
        s.tick(10).is(0);
        s.got(0, 0).is(Probe.READY);
        s.got(1, 3).is(1);
        s.fill(0, 5);
        s.got(0, 1).is(Probe.NONE);
        s.got(1, 1).is(5);
    }

    private static void waitingWithoutAnEndGoesOn() {
        Probe s = new Probe();
        s.listen(0, 0, 0, 0).is(Probe.NONE);
        s.tick(0).is(0);
        s.tick(50).is(0);
        s.got(0, 0).is(Probe.WAITING);
    }

    private static void othersStayAsTheyAre() {
        Probe s = new Probe();
        s.listen(1, 0, 0, 1).is(Probe.NONE);
        s.fill(0, 5);
        s.begin(1).is(true);
        s.command(1, Probe.PUT, 1, 1, 0).is(Probe.QUEUED);
        s.tick(50).is(0);
        s.got(1, 0).is(Probe.GATHERING);
        s.got(1, 1).is(5);
        s.commit(1).is(1);
    }
}
