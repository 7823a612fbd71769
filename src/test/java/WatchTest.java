/** Promise 7: watch. */
public final class WatchTest {
    public static void main(String[] args) {
        fromNowOn();
        againForgetsNothing();
        eachClientForItself();
        everyKey();
        notReady();
        Probe.finish();
    }

    private static void fromNowOn() {
        Probe s = new Probe();
        s.command(0, Probe.PUT, 3, 1, 0).is(0);
        s.watch(2, 3).is(true);
        s.command(0, Probe.PUT, 4, 1, 0).is(0);
        s.deceived(false);
        s.watch(2, 3).is(true);
        s.command(0, Probe.PUT, 3, 1, 0).is(0);
        s.deceived(true);
    }

    private static void againForgetsNothing() {
        Probe s = new Probe();
        s.watch(2, 3).is(true);
        s.command(0, Probe.PUT, 3, 1, 0).is(0);
        s.watch(2, 3).is(true);
        s.watch(2, 4).is(true);
        s.deceived(true);
    }

    private static void eachClientForItself() {
        Probe s = new Probe();
        s.watch(1, 3).is(true);
        s.command(0, Probe.PUT, 3, 1, 0).is(0);
        s.watch(2, 3).is(true);
        s.deceived(false);
        s.begin(1).is(true);
        s.commit(1).is(-2);
    }

    private static void everyKey() {
        Probe s = new Probe();
        for (int key = 0; key < 8; key++) {
            for (int watched = 0; watched < 8; watched++) {
                s.watch(2, watched).is(true);
            }
            s.command(0, Probe.PUT, key, 1, 0).is(0);
            s.deceived(true);
        }
        s.watch(2, 8).is(false);
        s.watch(2, -1).is(false);
        s.watch(2, Probe.LOW).is(false);
        s.watch(2, Probe.HIGH).is(false);
    }

    private static void notReady() {
        Probe s = new Probe();
        s.begin(2).is(true);
        s.watch(2, 0).is(false);
        s.command(0, Probe.PUT, 0, 1, 0).is(0);
        s.commit(2).is(0);
        s.listen(2, 1, 1, 1).is(Probe.NONE);
        s.watch(2, 0).is(false);
        s.command(0, Probe.PUT, 0, 1, 0).is(0);
        s.tick(1).is(0);
        s.deceived(false);
        int[] noClients = {-1, 4, Probe.LOW, Probe.HIGH};
        for (int client : noClients) {
            s.watch(client, 0).is(false);
        }
    }
}
