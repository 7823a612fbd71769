/** Promise 12: crash. */
public final class CrashTest {
    public static void main(String[] args) {
        withoutSync();
        deadlinesAreTimes();
        clientsForgetAll();
        crashedTwice();
        restoredListsServeNobody();
        Probe.finish();
    }

    private static void withoutSync() {
        Probe s = new Probe();
        s.command(0, Probe.PUT, 0, 1, 0).is(0);
        s.fill(1, 1);
        s.command(0, Probe.EXPIRE, 0, 1, 0).is(1);
        s.crash().is(0);
        s.ask(0, 0).is(Probe.NOTHING);
        s.ask(0, 1).is(0);
        s.ask(0, 3).is(-1);
        s.holds(1);
        s.command(0, Probe.ADD, 0, 3, 0).is(3);
    }

    private static void deadlinesAreTimes() {
        Probe s = new Probe();
        s.tick(7).is(0);
        for (int key = 0; key < 4; key++) {
            s.command(0, Probe.PUT, key, key, 0).is(0);
        }
        s.command(0, Probe.EXPIRE, 0, 9, 0).is(1);
        s.command(0, Probe.EXPIRE, 1, 10, 0).is(1);
        s.command(0, Probe.EXPIRE, 2, 11, 0).is(1);
        s.sync();
        s.command(0, Probe.EXPIRE, 3, 10, 0).is(1);
        s.tick(10).is(3);
        s.crash().is(2);
        s.ask(0, 0).is(Probe.NOTHING);
        s.ask(1, 0).is(Probe.NOTHING);
        s.ask(1, 3).is(-1);
        s.ask(2, 3).is(1);
        s.ask(3, 3).is(-1);
        s.tick(1).is(1);
        s.crash().is(1);
        s.ask(3, 1).is(3);
    }

    private static void clientsForgetAll() {
        Probe s = new Probe();
        s.sync();
        s.begin(0).is(true);
        s.command(0, Probe.ADD, 0, 3, 0).is(Probe.QUEUED);
        s.commit(0).is(1);
        s.fill(2, 22);
        s.listen(0, 2, 2, 0).is(22);
        s.watch(0, 0).is(true);
        s.begin(0).is(true);
        s.command(0, Probe.ADD, 0, 3, 0).is(Probe.QUEUED);
        s.command(3, Probe.PUT, 0, 1, 0).is(0);
        s.listen(1, 5, 5, 9).is(Probe.NONE);
        s.watch(2, 0).is(true);
        s.crash().is(0);
        for (int client = 0; client < 4; client++) {
            s.got(client, 0).is(Probe.READY);
            s.got(client, 1).is(Probe.NONE);
            s.got(client, 2).is(Probe.NONE);
            s.got(client, 3).is(Probe.NONE);
            s.result(client, 0).is(Probe.NONE);
        }
        s.commit(0).is(-1);
        s.fill(5, 1);
        s.holds(5, 1);
        s.command(3, Probe.PUT, 0, 1, 0).is(0);
        s.deceived(false);
        s.begin(0).is(true);
        s.commit(0).is(0);
    }

    private static void crashedTwice() {
        Probe s = new Probe();
        s.fill(0, 1, 2);
        s.sync();
        s.crash().is(1);
        s.command(0, Probe.TAKE, 0, 0, 0).is(1);
        s.crash().is(1);
        s.holds(0, 1, 2);
    }

    private static void restoredListsServeNobody() {
        Probe s = new Probe();
        s.fill(0, 1);
        s.sync();
        s.command(0, Probe.DROP, 0, 0, 0).is(1);
        s.listen(1, 0, 0, 0).is(Probe.NONE);
        s.crash().is(1);
        s.command(0, Probe.PUT, 1, 0, 0).is(0);
        s.holds(0, 1);
        s.got(1, 1).is(Probe.NONE);
    }
}
