/** Promise 7: watch. */
public final class WatchTest {
    public static void main(String[] args) {
        fromNowOn();
        everyClientEveryKey();
        againForgetsNoChange();
        againWithoutAChange();
        staysReady();
        gatheringIsFalse();
        waitingIsFalse();
        noSuchClientIsFalse();
        noSuchKeyIsFalse();
        waitingGoesOnWatching();
        Probe.finish();
    }

    /** "A READY client watches a key from now on ... true" */
    private static void fromNowOn() {
        Probe s = new Probe();
        s.put(3, 1).is(0);
        s.watch(2, 3).is(true);
        s.deceived(2, false);
        s.watch(2, 3).is(true);
        s.put(3, 1).is(0);
        s.deceived(2, true);
    }

    private static void everyClientEveryKey() {
        for (int client = 0; client < 3; client++) {
            Probe s = new Probe();
            for (int key = 0; key < 8; key++) {
                s.watch(client, key).is(true);
                s.put(key, 1).is(0);
                s.deceived(client, true);
                s.deceived((client + 1) % 3, false);
            }
        }
    }

    /** "(if it does not already)": it does not begin anew. */
    private static void againForgetsNoChange() {
        Probe s = new Probe();
        s.watch(2, 3).is(true);
        s.put(3, 1).is(0);
        s.watch(2, 3).is(true);
        s.deceived(2, true);
        s.watch(2, 3).is(true);
        s.put(3, 1).is(0);
        s.watch(2, 4).is(true);
        s.deceived(2, true);
    }

    /** "(if it does not already)": and it does not end. */
    private static void againWithoutAChange() {
        Probe s = new Probe();
        s.watch(2, 3).is(true);
        s.watch(2, 3).is(true);
        s.deceived(2, false);
        s.watch(2, 3).is(true);
        s.watch(2, 3).is(true);
        s.put(3, 1).is(0);
        s.deceived(2, true);
    }

    private static void staysReady() {
        Probe s = new Probe();
        s.watch(2, 3).is(true);
        s.got(2, 0).is(Probe.READY);
        s.isNothing(3);
    }

    /** "false if it is not READY" */
    private static void gatheringIsFalse() {
        Probe s = new Probe();
        s.begin(2).is(true);
        s.watch(2, 0).is(false);
        s.put(0, 1).is(0);
        s.commit(2).is(0);
    }

    /** "false if it is not READY" */
    private static void waitingIsFalse() {
        Probe s = new Probe();
        s.listen(2, 1, 1, 1).is(Probe.NONE);
        s.watch(2, 0).is(false);
        s.put(0, 1).is(0);
        s.tick(1).is(0);
        s.deceived(2, false);
    }

    private static void noSuchClientIsFalse() {
        Probe s = new Probe();
        for (int client : Probe.outside(4)) {
            s.watch(client, 0).is(false);
        }
        s.put(0, 1).is(0);
        for (int client = 0; client < 4; client++) {
            s.deceived(client, false);
        }
    }

    /** "or there is no such key": nor is it taken for a key of another client. */
    private static void noSuchKeyIsFalse() {
        Probe s = new Probe();
        for (int client = 0; client < 4; client++) {
            for (int key : Probe.outside(8)) {
                s.watch(client, key).is(false);
            }
        }
        for (int key = 0; key < 8; key++) {
            s.put(key, 1).is(0);
        }
        for (int client = 0; client < 4; client++) {
            s.deceived(client, false);
        }
    }

    private static void waitingGoesOnWatching() {
        Probe s = new Probe();
        s.watch(2, 5).is(true);
        s.listen(2, 1, 1, 1).is(Probe.NONE);
        s.put(5, 1).is(0);
        s.tick(1).is(0);
        s.deceived(2, true);
        s.watch(2, 5).is(true);
        s.listen(2, 1, 1, 1).is(Probe.NONE);
        s.tick(1).is(0);
        s.deceived(2, false);
    }
}
