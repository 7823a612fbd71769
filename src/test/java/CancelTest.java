/** Promise 6: cancel. */
public final class CancelTest {
    public static void main(String[] args) {
        gatheringEnds();
        watchingEnds();
        waitingGoesOn();
        resultsStay();
        Probe.finish();
    }

    private static void gatheringEnds() {
        Probe s = new Probe();
        s.begin(0).is(true);
        s.command(0, Probe.PUT, 0, 1, 0).is(Probe.QUEUED);
        s.cancel(0).is(true);
        s.got(0, 0).is(Probe.READY);
        s.ask(0, 0).is(Probe.NOTHING);
        s.commit(0).is(-1);
        s.begin(0).is(true);
        s.commit(0).is(0);
        s.ask(0, 0).is(Probe.NOTHING);
    }

    private static void watchingEnds() {
        Probe s = new Probe();
        s.watch(2, 0).is(true);
        s.watch(2, 7).is(true);
        s.command(0, Probe.PUT, 0, 1, 0).is(0);
        s.cancel(2).is(true);
        s.command(0, Probe.PUT, 7, 1, 0).is(0);
        s.deceived(false);
        s.watch(2, 0).is(true);
        s.command(0, Probe.PUT, 0, 1, 0).is(0);
        s.cancel(1).is(true);
        s.deceived(true);
    }

    private static void waitingGoesOn() {
        Probe s = new Probe();
        s.watch(2, 5).is(true);
        s.listen(2, 0, 0, 9).is(Probe.NONE);
        s.cancel(2).is(false);
        s.got(2, 3).is(9);
        s.command(0, Probe.PUT, 5, 1, 0).is(0);
        s.fill(0, 1);
        s.deceived(true);
        int[] noClients = {-1, 4, Probe.LOW, Probe.HIGH};
        for (int client : noClients) {
            s.cancel(client).is(false);
        }
    }

    private static void resultsStay() {
        Probe s = new Probe();
        s.begin(0).is(true);
        s.command(0, Probe.ADD, 0, 6, 0).is(Probe.QUEUED);
        s.commit(0).is(1);
        s.fill(1, 9);
        s.listen(0, 1, 1, 0).is(9);
        s.begin(0).is(true);
        s.cancel(0).is(true);
        s.result(0, 0).is(6);
        s.got(0, 1).is(9);
    }
}
