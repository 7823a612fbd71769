/** Promise 12: crash. */
public final class CrashTest {
    public static void main(String[] args) {
        keysAreAsAtTheLatestSync();
        keysAreNothingWithoutASync();
        keysWhoseDeadlineIsTheTimeAreNothing();
        keysWhoseDeadlineWasBeforeAreNothing();
        keysWhoseDeadlineIsStillToComeStay();
        thoseThatExpiredSinceComeBackOnlyIfTheirDeadlineIsLater();
        waitingClientsAreReady();
        gatheringClientsAreReady();
        clientsWatchNothing();
        clientsHaveNoResults();
        clientsTookNothing();
        theTimeStays();
        howManyKeys();
        crashingAgainIsTheSame();
        restoredListsServeNobody();
        whatComesAfterwardsWorks();
        Probe.finish();
    }

    /** "All keys and deadlines are as at the latest sync" */
    private static void keysAreAsAtTheLatestSync() {
        Probe s = new Probe();
        s.put(0, 5).is(0);
        s.fill(1, 10, 11);
        s.score(2, 3, 30).is(1);
        s.expire(2, 20).is(1);
        s.sync();
        s.drop(0).is(1);
        s.rename(1, 7).is(1);
        s.raise(2, 3, 1).is(31);
        s.expire(2, 0).is(1);
        s.put(5, 50).is(0);
        s.crash().is(3);
        s.isNumber(0, 5);
        s.isList(1, 10, 11);
        s.member(2, 3, 0).is(30);
        s.ask(2, 3).is(20);
        s.isNothing(5);
        s.isNothing(7);
    }

    /** "(NOTHING if there was none)" */
    private static void keysAreNothingWithoutASync() {
        Probe s = new Probe();
        for (int key = 0; key < 8; key++) {
            s.put(key, 1).is(0);
            s.expire(key, 5).is(1);
        }
        s.crash().is(0);
        for (int key = 0; key < 8; key++) {
            s.isNothing(key);
        }
        s.tick(5).is(0);
    }

    /** Key 0 is safe with a deadline of 10, and the time goes on. */
    private static Probe safeUntilTen(int time) {
        Probe s = new Probe();
        s.fill(0, 5);
        s.expire(0, 10).is(1);
        s.put(1, 1).is(0);
        s.sync();
        s.tick(time);
        return s;
    }

    /** "but those whose deadline is the TIME or before NOTHING": the TIME */
    private static void keysWhoseDeadlineIsTheTimeAreNothing() {
        Probe s = safeUntilTen(10);
        s.crash().is(1);
        s.isNothing(0);
        s.isNumber(1, 1);
    }

    /** "the TIME or before": before. */
    private static void keysWhoseDeadlineWasBeforeAreNothing() {
        Probe s = safeUntilTen(11);
        s.crash().is(1);
        s.isNothing(0);
        s.back(0, 1).is(1);
        s.ask(0, 3).is(-1);
    }

    private static void keysWhoseDeadlineIsStillToComeStay() {
        Probe s = safeUntilTen(9);
        s.crash().is(2);
        s.isList(0, 5);
        s.ask(0, 3).is(1);
        s.tick(1).is(1);
        s.isNothing(0);
    }

    /** A deadline that was set after the sync is not safe, one that was taken away after it is. */
    private static void thoseThatExpiredSinceComeBackOnlyIfTheirDeadlineIsLater() {
        Probe s = safeUntilTen(0);
        s.expire(0, 3).is(1);
        s.expire(1, 3).is(1);
        s.tick(3).is(2);
        s.crash().is(2);
        s.isList(0, 5);
        s.ask(0, 3).is(7);
        s.isNumber(1, 1);
        s.ask(1, 3).is(-1);
        s.expire(0, 0).is(1);
        s.tick(7).is(0);
        s.crash().is(1);
        s.isNothing(0);
    }

    /** "clients are READY": and nobody waits any more. */
    private static void waitingClientsAreReady() {
        Probe s = new Probe();
        for (int client = 0; client < 3; client++) {
            s.listen(client, client, 5, 9 * client).is(Probe.NONE);
        }
        s.crash().is(0);
        for (int client = 0; client < 3; client++) {
            s.got(client, 0).is(Probe.READY);
            s.got(client, 3).is(Probe.NONE);
        }
        s.fill(5, 50);
        s.isList(5, 50);
    }

    /** "clients are READY": and nothing is gathered any more. */
    private static void gatheringClientsAreReady() {
        Probe s = new Probe();
        for (int client = 0; client < 4; client++) {
            s.begin(client).is(true);
            s.command(client, Probe.PUT, client, 1, 0).is(Probe.QUEUED);
        }
        s.crash().is(0);
        for (int client = 0; client < 4; client++) {
            s.got(client, 0).is(Probe.READY);
            s.commit(client).is(-1);
            s.begin(client).is(true);
            s.commit(client).is(0);
            s.isNothing(client);
        }
    }

    /** "watch nothing": neither what has changed nor what will. */
    private static void clientsWatchNothing() {
        Probe s = new Probe();
        for (int client = 0; client < 4; client++) {
            s.watch(client, client).is(true);
            s.watch(client, 7).is(true);
        }
        s.put(7, 1).is(0);
        s.crash().is(0);
        for (int key = 0; key < 8; key++) {
            s.put(key, 1).is(0);
        }
        for (int client = 0; client < 4; client++) {
            s.deceived(client, false);
        }
    }

    /** "have no results" */
    private static void clientsHaveNoResults() {
        Probe s = new Probe();
        for (int client = 0; client < 4; client++) {
            s.begin(client).is(true);
            s.command(client, Probe.PUT, client, 1, 0).is(Probe.QUEUED);
            s.commit(client).is(1);
        }
        s.sync();
        s.crash().is(4);
        for (int client = 0; client < 4; client++) {
            s.result(client, 0).is(Probe.NONE);
        }
    }

    /** "and took nothing" */
    private static void clientsTookNothing() {
        Probe s = new Probe();
        s.fill(1, 10, 11, 12, 13);
        for (int client = 0; client < 4; client++) {
            s.listen(client, 1, 1, 0).is(10 + client);
        }
        s.sync();
        s.crash().is(0);
        for (int client = 0; client < 4; client++) {
            s.got(client, 1).is(Probe.NONE);
            s.got(client, 2).is(Probe.NONE);
        }
    }

    /** "The TIME stays." */
    private static void theTimeStays() {
        Probe s = new Probe();
        s.tick(5).is(0);
        s.put(0, 1).is(0);
        s.expire(0, 50).is(1);
        s.sync();
        s.tick(20).is(0);
        s.crash().is(1);
        s.ask(0, 3).is(30);
        s.tick(29).is(0);
        s.tick(1).is(1);
    }

    /** "How many keys are not NOTHING.": none, one and all. */
    private static void howManyKeys() {
        Probe s = new Probe();
        s.put(7, 1).is(0);
        s.crash().is(0);
        s.put(7, 1).is(0);
        s.sync();
        s.crash().is(1);
        for (int key = 0; key < 7; key++) {
            s.back(key, 1).is(1);
        }
        s.sync();
        s.crash().is(8);
    }

    private static void crashingAgainIsTheSame() {
        Probe s = safeUntilTen(0);
        s.crash().is(2);
        s.take(0, 0).is(5);
        s.put(1, 2).is(0);
        s.crash().is(2);
        s.isList(0, 5);
        s.isNumber(1, 1);
        s.tick(10).is(1);
        s.crash().is(1);
        s.crash().is(1);
    }

    private static void restoredListsServeNobody() {
        Probe s = safeUntilTen(0);
        s.drop(0).is(1);
        s.listen(1, 0, 0, 0).is(Probe.NONE);
        s.crash().is(2);
        s.put(2, 0).is(0);
        s.isList(0, 5);
        s.got(1, 1).is(Probe.NONE);
    }

    private static void whatComesAfterwardsWorks() {
        Probe s = safeUntilTen(5);
        s.crash().is(2);
        s.listen(1, 6, 6, 5).is(Probe.NONE);
        s.got(1, 3).is(5);
        s.fill(6, 60);
        s.got(1, 1).is(60);
        s.watch(2, 0).is(true);
        s.back(0, 6).is(2);
        s.deceived(2, true);
        s.begin(1).is(true);
        s.command(1, Probe.ADD, 1, 1, 0).is(Probe.QUEUED);
        s.commit(1).is(1);
        s.result(1, 0).is(2);
        s.sync();
        s.crash().is(2);
        s.isList(0, 5, 6);
        s.isNumber(1, 2);
    }
}
