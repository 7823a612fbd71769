/** Promise 11: sync. */
public final class SyncTest {
    public static void main(String[] args) {
        everyKindIsSafe();
        fullKeysAreSafe();
        deadlinesAreSafe();
        thatThereIsNoneIsSafeToo();
        nothingIsSafeToo();
        fromNowOn();
        theLatestCounts();
        clientsAreNot();
        queuedCommandsAreNot();
        Probe.finish();
    }

    private static void replaceAll(Probe s) {
        for (int key = 0; key < 8; key++) {
            s.put(key, -9).is(0);
        }
    }

    /** "What the keys are ... is safe": the first key and the last, too. */
    private static void everyKindIsSafe() {
        Probe s = new Probe();
        s.put(0, Probe.LOW).is(0);
        s.fill(3, 30, 31);
        s.score(7, 5, 50).is(1);
        s.score(7, 6, 40).is(1);
        s.sync();
        replaceAll(s);
        s.crash().is(3);
        s.isNumber(0, Probe.LOW);
        s.isList(3, 30, 31);
        s.isRanking(7, 6, 5);
        s.member(7, 5, 0).is(50);
        s.member(7, 6, 0).is(40);
        s.isNothing(1);
    }

    private static void fullKeysAreSafe() {
        Probe s = new Probe();
        s.fillUp(0);
        s.fillUp(6);
        s.rankUp(7);
        s.sync();
        replaceAll(s);
        s.crash().is(3);
        s.isList(0, 0, 1, 2, 3, 4, 5, 6, 7, 8, 9, 10, 11);
        s.isList(6, 0, 1, 2, 3, 4, 5, 6, 7, 8, 9, 10, 11);
        s.isRanking(7, 0, 1, 2, 3, 4, 5, 6, 7, 8, 9, 10, 11);
        s.member(7, 11, 0).is(11);
        s.back(6, 1).is(Probe.FULL);
    }

    /** "and their deadlines" */
    private static void deadlinesAreSafe() {
        Probe s = new Probe();
        for (int key = 0; key < 8; key++) {
            s.put(key, 1).is(0);
            s.expire(key, 10 + key).is(1);
        }
        s.sync();
        replaceAll(s);
        s.crash().is(8);
        for (int key = 0; key < 8; key++) {
            s.ask(key, 3).is(10 + key);
        }
    }

    private static void thatThereIsNoneIsSafeToo() {
        Probe s = new Probe();
        s.put(0, 1).is(0);
        s.sync();
        s.expire(0, 5).is(1);
        s.crash().is(1);
        s.ask(0, 3).is(-1);
        s.tick(5).is(0);
    }

    private static void nothingIsSafeToo() {
        Probe s = new Probe();
        s.put(0, 1).is(0);
        s.sync();
        s.drop(0).is(1);
        s.sync();
        replaceAll(s);
        s.crash().is(0);
        s.isNothing(0);
    }

    /** "from now on": not what comes afterwards. */
    private static void fromNowOn() {
        Probe s = new Probe();
        s.fill(0, 1, 2);
        s.sync();
        s.take(0, 0).is(1);
        s.back(0, 3).is(2);
        s.put(1, 1).is(0);
        s.crash().is(1);
        s.isList(0, 1, 2);
        s.isNothing(1);
    }

    private static void theLatestCounts() {
        Probe s = new Probe();
        s.put(0, 1).is(0);
        s.put(1, 1).is(0);
        s.sync();
        s.put(0, 2).is(0);
        s.drop(1).is(1);
        s.put(7, 3).is(0);
        s.sync();
        s.put(0, 4).is(0);
        s.crash().is(2);
        s.isNumber(0, 2);
        s.isNothing(1);
        s.isNumber(7, 3);
    }

    private static void clientsAreNot() {
        Probe s = new Probe();
        s.put(0, 1).is(0);
        s.watch(2, 0).is(true);
        s.listen(1, 1, 1, 5).is(Probe.NONE);
        s.begin(0).is(true);
        s.sync();
        s.got(0, 0).is(Probe.GATHERING);
        s.got(1, 3).is(5);
        s.isNumber(0, 1);
        s.deceived(2, false);
        s.crash().is(1);
        s.got(0, 0).is(Probe.READY);
        s.got(1, 0).is(Probe.READY);
    }

    private static void queuedCommandsAreNot() {
        Probe s = new Probe();
        s.begin(0).is(true);
        s.command(0, Probe.PUT, 0, 1, 0).is(Probe.QUEUED);
        s.sync();
        s.commit(0).is(1);
        s.crash().is(0);
        s.isNothing(0);
    }
}
