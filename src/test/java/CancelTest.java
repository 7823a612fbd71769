/** Promise 6: cancel. */
public final class CancelTest {
    public static void main(String[] args) {
        gatheringIsReady();
        theCommandsAreForgotten();
        watchesNothingAfterwards();
        readyIsTrueToo();
        waitingIsFalse();
        noSuchClientIsFalse();
        resultsAndTakenStay();
        othersStay();
        Probe.finish();
    }

    /** "A client that is not WAITING is READY ... true" */
    private static void gatheringIsReady() {
        for (int client = 0; client < 4; client++) {
            Probe s = new Probe();
            s.begin(client).is(true);
            s.cancel(client).is(true);
            s.got(client, 0).is(Probe.READY);
            s.commit(client).is(-1);
        }
    }

    /** "its commands are forgotten" */
    private static void theCommandsAreForgotten() {
        Probe s = new Probe();
        s.begin(0).is(true);
        s.command(0, Probe.PUT, 0, 1, 0).is(Probe.QUEUED);
        s.command(0, Probe.PUT, 1, 1, 0).is(Probe.QUEUED);
        s.cancel(0).is(true);
        s.begin(0).is(true);
        s.command(0, Probe.PUT, 2, 1, 0).is(Probe.QUEUED);
        s.commit(0).is(1);
        s.isNothing(0);
        s.isNothing(1);
        s.isNumber(2, 1);
    }

    /** "and it watches nothing": neither what has changed already nor what will. */
    private static void watchesNothingAfterwards() {
        Probe s = new Probe();
        for (int key = 0; key < 8; key++) {
            s.watch(2, key).is(true);
        }
        s.put(0, 1).is(0);
        s.begin(2).is(true);
        s.cancel(2).is(true);
        for (int key = 0; key < 8; key++) {
            s.put(key, 1).is(0);
        }
        s.deceived(2, false);
    }

    /** "A client that is not WAITING": also one that is READY, and it watches nothing then. */
    private static void readyIsTrueToo() {
        Probe s = new Probe();
        s.cancel(2).is(true);
        s.watch(2, 7).is(true);
        s.put(7, 1).is(0);
        s.cancel(2).is(true);
        s.got(2, 0).is(Probe.READY);
        s.deceived(2, false);
    }

    /** "false otherwise": and it goes on waiting and watching. */
    private static void waitingIsFalse() {
        Probe s = new Probe();
        s.watch(2, 5).is(true);
        s.listen(2, 0, 1, 9).is(Probe.NONE);
        s.cancel(2).is(false);
        s.got(2, 0).is(Probe.WAITING);
        s.got(2, 3).is(9);
        s.put(5, 1).is(0);
        s.fill(1, 1);
        s.got(2, 1).is(1);
        s.deceived(2, true);
    }

    /** "false otherwise" */
    private static void noSuchClientIsFalse() {
        Probe s = new Probe();
        for (int client = 0; client < 4; client++) {
            s.begin(client).is(true);
        }
        for (int client : Probe.outside(4)) {
            s.cancel(client).is(false);
        }
        for (int client = 0; client < 4; client++) {
            s.got(client, 0).is(Probe.GATHERING);
        }
    }

    private static void resultsAndTakenStay() {
        Probe s = new Probe();
        s.begin(0).is(true);
        s.command(0, Probe.ADD, 0, 6, 0).is(Probe.QUEUED);
        s.commit(0).is(1);
        s.fill(1, 9);
        s.listen(0, 1, 1, 0).is(9);
        s.begin(0).is(true);
        s.command(0, Probe.ADD, 0, 6, 0).is(Probe.QUEUED);
        s.cancel(0).is(true);
        s.result(0, 0).is(6);
        s.got(0, 1).is(9);
        s.got(0, 2).is(1);
    }

    private static void othersStay() {
        Probe s = new Probe();
        s.watch(2, 5).is(true);
        s.begin(1).is(true);
        s.command(1, Probe.ADD, 0, 6, 0).is(Probe.QUEUED);
        s.cancel(0).is(true);
        s.commit(1).is(1);
        s.put(5, 1).is(0);
        s.deceived(2, true);
    }
}
