/** Promise 18: which test comes first. */
public final class OrderTest {
    public static void main(String[] args) {
        commit();
        commandRefusesBeforeFull();
        commandRefusesBeforeWrong();
        listenRefusesBeforeWrong();
        theConstants();
        Probe.finish();
    }

    private static void commit() {
        Probe s = new Probe();
        s.watch(2, 0).is(true);
        s.command(0, Probe.PUT, 0, 1, 0).is(0);
        s.commit(2).is(-1);
        s.deceived(true);
        s.commit(2).is(-1);
    }

    private static void commandRefusesBeforeFull() {
        Probe s = new Probe();
        s.begin(0).is(true);
        for (int i = 0; i < 8; i++) {
            s.command(0, Probe.BACK, 0, i, 0).is(Probe.QUEUED);
        }
        s.command(0, 12, 0, 0, 0).is(Probe.REFUSED);
        s.command(0, Probe.BACK, -1, 0, 0).is(Probe.REFUSED);
        s.command(0, Probe.SCORE, 0, 16, 0).is(Probe.REFUSED);
        s.command(0, Probe.EXPIRE, 0, 101, 0).is(Probe.REFUSED);
        s.command(0, Probe.RENAME, 0, 0, 0).is(Probe.REFUSED);
        s.command(0, Probe.BACK, 0, 8, 0).is(Probe.FULL);
        s.commit(0).is(8);
        for (int m = 0; m < 12; m++) {
            s.command(0, Probe.SCORE, 1, m, 0).is(1);
        }
        s.command(0, Probe.SCORE, 1, 16, 0).is(Probe.REFUSED);
        s.command(0, Probe.RAISE, 1, -1, 0).is(Probe.REFUSED);
    }

    private static void commandRefusesBeforeWrong() {
        Probe s = new Probe();
        s.command(0, Probe.PUT, 0, 1, 0).is(0);
        s.command(0, Probe.SCORE, 0, 16, 0).is(Probe.REFUSED);
        s.command(0, Probe.STRIKE, 0, -1, 0).is(Probe.REFUSED);
        s.listen(1, 1, 1, 0).is(Probe.NONE);
        s.command(1, Probe.BACK, 0, 0, 0).is(Probe.REFUSED);
        s.command(4, Probe.BACK, 0, 0, 0).is(Probe.REFUSED);
        s.command(0, Probe.EXPIRE, 2, 101, 0).is(Probe.REFUSED);
        s.command(0, Probe.RENAME, 2, 2, 0).is(Probe.REFUSED);
    }

    private static void listenRefusesBeforeWrong() {
        Probe s = new Probe();
        s.command(0, Probe.PUT, 0, 1, 0).is(0);
        s.fill(1, 1);
        s.listen(0, 0, 8, 0).is(Probe.REFUSED);
        s.listen(0, -1, 0, 0).is(Probe.REFUSED);
        s.listen(0, 0, 0, 51).is(Probe.REFUSED);
        s.listen(0, 1, 1, -1).is(Probe.REFUSED);
        s.listen(4, 0, 0, 0).is(Probe.REFUSED);
        s.begin(0).is(true);
        s.listen(0, 0, 0, 0).is(Probe.REFUSED);
        s.listen(0, 1, 1, 0).is(Probe.REFUSED);
        s.holds(1, 1);
    }

    private static void theConstants() {
        Probe.answer("WRONG", WaitingStore.WRONG).is(Probe.WRONG);
        Probe.answer("EMPTY", WaitingStore.EMPTY).is(Probe.EMPTY);
        Probe.answer("FULL", WaitingStore.FULL).is(Probe.FULL);
        Probe.answer("REFUSED", WaitingStore.REFUSED).is(Probe.REFUSED);
        Probe.answer("QUEUED", WaitingStore.QUEUED).is(Probe.QUEUED);
        Probe.answer("NONE", WaitingStore.NONE).is(Probe.NONE);
    }
}
