/** Promise 8: result. */
public final class ResultTest {
    public static void main(String[] args) {
        latestCommit();
        everyAnswer();
        eachClientForItself();
        noSuch();
        Probe.finish();
    }

    private static void latestCommit() {
        Probe s = new Probe();
        s.begin(2).is(true);
        s.command(2, Probe.ADD, 0, 3, 0).is(Probe.QUEUED);
        s.command(2, Probe.ADD, 0, 4, 0).is(Probe.QUEUED);
        s.result(2, 0).is(Probe.NONE);
        s.commit(2).is(2);
        s.result(2, 0).is(3);
        s.result(2, 1).is(7);
        s.result(2, 2).is(Probe.NONE);
        s.watch(2, 0).is(true);
        s.begin(2).is(true);
        s.command(2, Probe.ADD, 0, 1, 0).is(Probe.QUEUED);
        s.result(2, 0).is(3);
        s.command(0, Probe.ADD, 0, 1, 0).is(8);
        s.commit(2).is(-2);
        s.result(2, 0).is(3);
        s.result(2, 1).is(7);
        s.commit(2).is(-1);
        s.result(2, 1).is(7);
        s.begin(2).is(true);
        s.command(2, Probe.ADD, 0, 1, 0).is(Probe.QUEUED);
        s.commit(2).is(1);
        s.result(2, 0).is(9);
        s.result(2, 1).is(Probe.NONE);
        s.begin(2).is(true);
        s.commit(2).is(0);
        s.result(2, 0).is(Probe.NONE);
    }

    private static void everyAnswer() {
        Probe s = new Probe();
        s.fill(7, 0, 1, 2, 3, 4, 5, 6, 7, 8, 9, 10, 11);
        s.begin(3).is(true);
        s.command(3, Probe.FRONT, 7, 1, 0).is(Probe.QUEUED);
        s.command(3, Probe.TAKE, 6, 1, 0).is(Probe.QUEUED);
        s.command(3, Probe.ADD, 7, 1, 0).is(Probe.QUEUED);
        s.command(3, Probe.PUT, 5, 1, 0).is(Probe.QUEUED);
        s.command(3, Probe.RAISE, 4, 1, Probe.LOW).is(Probe.QUEUED);
        s.command(3, Probe.LEAST, 4, 1, 0).is(Probe.QUEUED);
        s.command(3, Probe.LEAST, 4, 1, 0).is(Probe.QUEUED);
        s.command(3, Probe.DROP, 7, 1, 0).is(Probe.QUEUED);
        s.commit(3).is(8);
        long[] due = {Probe.FULL, Probe.EMPTY, Probe.WRONG, 0, Probe.LOW, 1, Probe.EMPTY, 1, Probe.NONE};
        for (int k = 0; k < due.length; k++) {
            s.result(3, k).is(due[k]);
        }
    }

    private static void eachClientForItself() {
        Probe s = new Probe();
        for (int client = 0; client < 4; client++) {
            s.begin(client).is(true);
            for (int i = 0; i < 8; i++) {
                s.command(client, Probe.ADD, client, client + 1, 0).is(Probe.QUEUED);
            }
        }
        for (int client = 0; client < 4; client++) {
            s.commit(client).is(8);
        }
        for (int client = 0; client < 4; client++) {
            for (int k = 0; k < 8; k++) {
                s.result(client, k).is((client + 1) * (k + 1));
            }
        }
    }

    private static void noSuch() {
        Probe s = new Probe();
        s.begin(0).is(true);
        s.command(0, Probe.ADD, 0, 3, 0).is(Probe.QUEUED);
        s.commit(0).is(1);
        int[] none = {-1, 8, Probe.LOW, Probe.HIGH};
        for (int i : none) {
            s.result(i, 0).is(Probe.NONE);
            s.result(0, i).is(Probe.NONE);
        }
        s.result(4, 0).is(Probe.NONE);
        s.result(1, 0).is(Probe.NONE);
    }
}
