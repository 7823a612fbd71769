/** Promise 11: sync. */
public final class SyncTest {
    public static void main(String[] args) {
        theLatestCounts();
        everyKindIsSafe();
        changesNothingElse();
        Probe.finish();
    }

    private static void theLatestCounts() {
        Probe s = new Probe();
        s.command(0, Probe.PUT, 0, 1, 0).is(0);
        s.sync();
        s.command(0, Probe.PUT, 0, 2, 0).is(0);
        s.command(0, Probe.PUT, 7, 3, 0).is(0);
        s.sync();
        s.command(0, Probe.PUT, 0, 4, 0).is(0);
        s.crash().is(2);
        s.ask(0, 1).is(2);
        s.ask(7, 1).is(3);
        s.command(0, Probe.DROP, 0, 0, 0).is(1);
        s.sync();
        s.crash().is(1);
        s.ask(0, 0).is(Probe.NOTHING);
    }

    private static void everyKindIsSafe() {
        Probe s = new Probe();
        s.fill(5, 1, 2, 3, 4, 5, 6, 7, 8, 9, 10, 11, 12);
        for (int m = 4; m < 16; m++) {
            s.command(0, Probe.SCORE, 6, m, -m).is(1);
        }
        s.command(0, Probe.PUT, 7, Probe.LOW, 0).is(0);
        s.command(0, Probe.EXPIRE, 6, 30, 0).is(1);
        s.sync();
        for (int key = 5; key < 8; key++) {
            s.command(0, Probe.PUT, key, 0, 0).is(0);
        }
        s.crash().is(3);
        s.holds(5, 1, 2, 3, 4, 5, 6, 7, 8, 9, 10, 11, 12);
        s.holds(6, 15, 14, 13, 12, 11, 10, 9, 8, 7, 6, 5, 4);
        s.member(6, 15, 0).is(-15);
        s.ask(5, 3).is(-1);
        s.ask(6, 3).is(30);
        s.ask(7, 1).is(Probe.LOW);
    }

    private static void changesNothingElse() {
        Probe s = new Probe();
        s.command(0, Probe.PUT, 0, 1, 0).is(0);
        s.watch(2, 0).is(true);
        s.listen(1, 1, 1, 5).is(Probe.NONE);
        s.sync();
        s.got(1, 3).is(5);
        s.ask(0, 1).is(1);
        s.deceived(false);
    }
}
