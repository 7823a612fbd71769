/** Promise 4: begin. */
public final class BeginTest {
    public static void main(String[] args) {
        readyIsGathering();
        gatheringIsFalse();
        waitingIsFalse();
        noSuchClientIsFalse();
        nothingIsGatheredAtFirst();
        whatIsWatchedStaysWatched();
        resultsAndTakenStay();
        Probe.finish();
    }

    /** "A READY client is GATHERING from now on: true" */
    private static void readyIsGathering() {
        for (int client = 0; client < 4; client++) {
            Probe s = new Probe();
            s.begin(client).is(true);
            for (int i = 0; i < 4; i++) {
                s.got(i, 0).is(i == client ? Probe.GATHERING : Probe.READY);
            }
        }
    }

    /** "false otherwise": and what is gathered already stays. */
    private static void gatheringIsFalse() {
        Probe s = new Probe();
        s.begin(1).is(true);
        s.command(1, Probe.PUT, 0, 5, 0).is(Probe.QUEUED);
        s.begin(1).is(false);
        s.got(1, 0).is(Probe.GATHERING);
        s.commit(1).is(1);
        s.isNumber(0, 5);
    }

    /** "false otherwise": and it goes on waiting. */
    private static void waitingIsFalse() {
        Probe s = new Probe();
        s.listen(1, 0, 0, 9).is(Probe.NONE);
        s.begin(1).is(false);
        s.got(1, 0).is(Probe.WAITING);
        s.got(1, 3).is(9);
        s.fill(0, 5);
        s.got(1, 1).is(5);
        s.begin(1).is(true);
    }

    /** "false otherwise" */
    private static void noSuchClientIsFalse() {
        Probe s = new Probe();
        for (int client : Probe.outside(4)) {
            s.begin(client).is(false);
        }
        for (int client = 0; client < 4; client++) {
            s.got(client, 0).is(Probe.READY);
        }
    }

    private static void nothingIsGatheredAtFirst() {
        Probe s = new Probe();
        s.begin(1).is(true);
        s.command(1, Probe.PUT, 0, 5, 0).is(Probe.QUEUED);
        s.commit(1).is(1);
        s.put(0, 6).is(0);
        s.begin(1).is(true);
        s.commit(1).is(0);
        s.isNumber(0, 6);
    }

    private static void whatIsWatchedStaysWatched() {
        Probe s = new Probe();
        s.watch(2, 1).is(true);
        s.begin(2).is(true);
        s.put(1, 1).is(0);
        s.commit(2).is(-2);
    }

    private static void resultsAndTakenStay() {
        Probe s = new Probe();
        s.begin(2).is(true);
        s.command(2, Probe.ADD, 0, 5, 0).is(Probe.QUEUED);
        s.commit(2).is(1);
        s.fill(1, 10);
        s.listen(2, 1, 1, 0).is(10);
        s.begin(2).is(true);
        s.result(2, 0).is(5);
        s.got(2, 1).is(10);
        s.got(2, 2).is(1);
    }
}
