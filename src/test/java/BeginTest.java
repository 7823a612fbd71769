/** Promise 4: begin. */
public final class BeginTest {
    public static void main(String[] args) {
        Probe s = new Probe();
        s.begin(3).is(true);
        s.got(3, 0).is(Probe.GATHERING);
        s.got(2, 0).is(Probe.READY);
        s.command(3, Probe.PUT, 0, 1, 0).is(Probe.QUEUED);
        s.begin(3).is(false);
        s.commit(3).is(1);
        s.ask(0, 1).is(1);
        s.begin(3).is(true);
        s.commit(3).is(0);
        s.listen(0, 1, 1, 0).is(Probe.NONE);
        s.begin(0).is(false);
        s.got(0, 0).is(Probe.WAITING);
        int[] noClients = {-1, 4, Probe.LOW, Probe.HIGH};
        for (int client : noClients) {
            s.begin(client).is(false);
        }
        keepsWhatIsWatched();
        Probe.finish();
    }

    private static void keepsWhatIsWatched() {
        Probe s = new Probe();
        s.watch(2, 1).is(true);
        s.begin(2).is(true);
        s.command(0, Probe.PUT, 1, 1, 0).is(0);
        s.commit(2).is(-2);
    }
}
