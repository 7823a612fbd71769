/** Promise 8: result. */
public final class ResultTest {
    public static void main(String[] args) {
        theFirstIsZero();
        theLastOfEight();
        theLatestCommitCounts();
        aCommitOfNothingHasNone();
        aDeceivedCommitDoesNotCount();
        aCommitOfNobodyGatheringDoesNotCount();
        gatheringAndCancelDoNotCount();
        commandsOutsideDoNotCount();
        everyAnswer();
        eachClientForItself();
        noCommitHasNone();
        noSuchClientHasNone();
        noSuchCommandHasNone();
        Probe.finish();
    }

    /** Client 2 commits ADDs of 1 to key 0. */
    private static void addOnes(Probe s, int count) {
        s.begin(2).is(true);
        for (int i = 0; i < count; i++) {
            s.command(2, Probe.ADD, 0, 1, 0).is(Probe.QUEUED);
        }
        s.commit(2).is(count);
    }

    /** "What the k-th command (0 first) ... answered" */
    private static void theFirstIsZero() {
        Probe s = new Probe();
        addOnes(s, 2);
        s.result(2, 0).is(1);
        s.result(2, 1).is(2);
        s.result(2, 2).is(Probe.NONE);
    }

    private static void theLastOfEight() {
        Probe s = new Probe();
        addOnes(s, 8);
        for (int k = 0; k < 8; k++) {
            s.result(2, k).is(k + 1);
        }
        s.result(2, 8).is(Probe.NONE);
    }

    /** "of a client's latest commit": with fewer commands than the one before. */
    private static void theLatestCommitCounts() {
        Probe s = new Probe();
        addOnes(s, 3);
        addOnes(s, 1);
        s.result(2, 0).is(4);
        s.result(2, 1).is(Probe.NONE);
    }

    /** "that was 0 or more": 0, too. */
    private static void aCommitOfNothingHasNone() {
        Probe s = new Probe();
        addOnes(s, 3);
        addOnes(s, 0);
        s.result(2, 0).is(Probe.NONE);
    }

    /** "that was 0 or more": -2 is not. */
    private static void aDeceivedCommitDoesNotCount() {
        Probe s = new Probe();
        addOnes(s, 2);
        s.watch(2, 0).is(true);
        s.begin(2).is(true);
        s.command(2, Probe.ADD, 0, 1, 0).is(Probe.QUEUED);
        s.put(0, 9).is(0);
        s.commit(2).is(-2);
        s.result(2, 0).is(1);
        s.result(2, 1).is(2);
    }

    /** "that was 0 or more": -1 is not. */
    private static void aCommitOfNobodyGatheringDoesNotCount() {
        Probe s = new Probe();
        addOnes(s, 2);
        s.commit(2).is(-1);
        s.result(2, 1).is(2);
        s.listen(2, 7, 7, 0).is(Probe.NONE);
        s.commit(2).is(-1);
        s.result(2, 1).is(2);
    }

    private static void gatheringAndCancelDoNotCount() {
        Probe s = new Probe();
        addOnes(s, 1);
        s.begin(2).is(true);
        s.command(2, Probe.PUT, 0, 9, 0).is(Probe.QUEUED);
        s.command(2, Probe.PUT, 0, 9, 0).is(Probe.QUEUED);
        s.result(2, 0).is(1);
        s.result(2, 1).is(Probe.NONE);
        s.cancel(2).is(true);
        s.result(2, 0).is(1);
        s.result(2, 1).is(Probe.NONE);
    }

    private static void commandsOutsideDoNotCount() {
        Probe s = new Probe();
        addOnes(s, 1);
        s.command(2, Probe.ADD, 0, 6, 0).is(7);
        s.result(2, 0).is(1);
    }

    private static void everyAnswer() {
        Probe s = new Probe();
        s.fillUp(7);
        s.begin(3).is(true);
        s.command(3, Probe.FRONT, 7, 1, 0).is(Probe.QUEUED);
        s.command(3, Probe.TAKE, 6, 1, 0).is(Probe.QUEUED);
        s.command(3, Probe.ADD, 7, 1, 0).is(Probe.QUEUED);
        s.command(3, Probe.PUT, 5, 1, 0).is(Probe.QUEUED);
        s.command(3, Probe.RAISE, 4, 1, Probe.LOW).is(Probe.QUEUED);
        s.command(3, Probe.LEAST, 4, 1, 0).is(Probe.QUEUED);
        s.command(3, Probe.LEAST, 4, 1, 0).is(Probe.QUEUED);
        s.command(3, Probe.DROP, 7, 1, 0).is(Probe.QUEUED);
        s.commit(3).is(8);
        long[] due = {Probe.FULL, Probe.EMPTY, Probe.WRONG, 0, Probe.LOW, 1, Probe.EMPTY, 1, Probe.NONE};
        for (int k = 0; k < due.length; k++) {
            s.result(3, k).is(due[k]);
        }
    }

    private static void eachClientForItself() {
        Probe s = new Probe();
        for (int client = 0; client < 4; client++) {
            s.begin(client).is(true);
            for (int i = 0; i < 8; i++) {
                s.command(client, Probe.ADD, client, client + 1, 0).is(Probe.QUEUED);
            }
        }
        for (int client = 0; client < 4; client++) {
            s.commit(client).is(8);
        }
        for (int client = 0; client < 4; client++) {
            for (int k = 0; k < 8; k++) {
                s.result(client, k).is((client + 1) * (k + 1));
            }
        }
    }

    /** "NONE if there is none": no commit. */
    private static void noCommitHasNone() {
        Probe s = new Probe();
        for (int client = 0; client < 4; client++) {
            s.result(client, 0).is(Probe.NONE);
        }
        addOnes(s, 1);
        s.result(1, 0).is(Probe.NONE);
        s.result(3, 0).is(Probe.NONE);
    }

    /** "NONE if there is none": no client. */
    private static void noSuchClientHasNone() {
        Probe s = new Probe();
        addOnes(s, 8);
        for (int client : Probe.outside(4)) {
            s.result(client, 0).is(Probe.NONE);
            s.result(client, 7).is(Probe.NONE);
        }
    }

    /** "NONE if there is none": no k-th command, nor one of another client's. */
    private static void noSuchCommandHasNone() {
        Probe s = new Probe();
        for (int client = 0; client < 4; client++) {
            s.begin(client).is(true);
            for (int i = 0; i < 8; i++) {
                s.command(client, Probe.ADD, 0, 1, 0).is(Probe.QUEUED);
            }
            s.commit(client).is(8);
        }
        for (int client = 0; client < 4; client++) {
            for (int k : Probe.outside(8)) {
                s.result(client, k).is(Probe.NONE);
            }
        }
    }
}
