/** Promise 5: commit, and what changes a key (terms). */
public final class CommitTest {
    public static void main(String[] args) {
        doesTheCommandsInOrder();
        deceivedDoesNothing();
        watchesNothingAfterwards();
        ownChangesDeceive();
        whatChangesANumber();
        whatChangesAList();
        whatChangesARanking();
        renamingChangesBothKeys();
        deadlinesChangeKeys();
        takingChangesKeys();
        noGathering();
        Probe.finish();
    }

    private static void doesTheCommandsInOrder() {
        Probe s = new Probe();
        s.begin(0).is(true);
        s.command(0, Probe.PUT, 0, 5, 0).is(Probe.QUEUED);
        s.command(0, Probe.ADD, 0, 2, 0).is(Probe.QUEUED);
        s.command(0, Probe.SCORE, 1, 4, -3).is(Probe.QUEUED);
        s.command(0, Probe.RENAME, 0, 2, 0).is(Probe.QUEUED);
        s.command(1, Probe.PUT, 0, 100, 0).is(0);
        s.commit(0).is(4);
        s.got(0, 0).is(Probe.READY);
        s.ask(0, 0).is(Probe.NOTHING);
        s.ask(2, 1).is(7);
        s.member(1, 4, 0).is(-3);
        s.command(0, Probe.ADD, 2, 1, 0).is(8);
        s.begin(0).is(true);
        s.commit(0).is(0);
        s.ask(2, 1).is(8);
    }

    private static void deceivedDoesNothing() {
        Probe s = new Probe();
        s.watch(0, 5).is(true);
        s.watch(0, 6).is(true);
        s.begin(0).is(true);
        s.command(0, Probe.PUT, 0, 5, 0).is(Probe.QUEUED);
        s.command(1, Probe.PUT, 6, 1, 0).is(0);
        s.commit(0).is(-2);
        s.ask(0, 0).is(Probe.NOTHING);
        s.got(0, 0).is(Probe.READY);
        s.commit(0).is(-1);
        s.begin(0).is(true);
        s.command(0, Probe.PUT, 1, 5, 0).is(Probe.QUEUED);
        s.commit(0).is(1);
        s.ask(0, 0).is(Probe.NOTHING);
        s.ask(1, 1).is(5);
    }

    private static void watchesNothingAfterwards() {
        Probe s = new Probe();
        s.watch(2, 5).is(true);
        s.deceived(false);
        s.command(0, Probe.PUT, 5, 1, 0).is(0);
        s.deceived(false);
        s.watch(2, 5).is(true);
        s.command(0, Probe.PUT, 5, 1, 0).is(0);
        s.deceived(true);
        s.command(0, Probe.PUT, 5, 1, 0).is(0);
        s.deceived(false);
    }

    private static void ownChangesDeceive() {
        Probe s = new Probe();
        s.watch(2, 5).is(true);
        s.command(2, Probe.PUT, 5, 1, 0).is(0);
        s.deceived(true);
        s.watch(2, 5).is(true);
        s.begin(2).is(true);
        s.command(2, Probe.PUT, 5, 1, 0).is(Probe.QUEUED);
        s.commit(2).is(1);
    }

    private static void changes(Probe s, boolean want, int op, int key, int a, int b) {
        s.watch(2, key).is(true);
        s.command(0, op, key, a, b);
        s.deceived(want);
    }

    private static void whatChangesANumber() {
        Probe s = new Probe();
        changes(s, false, Probe.DROP, 1, 0, 0);
        changes(s, false, Probe.EXPIRE, 1, 5, 0);
        changes(s, true, Probe.PUT, 1, 5, 0);
        changes(s, true, Probe.PUT, 1, 5, 0);
        changes(s, true, Probe.ADD, 1, 0, 0);
        changes(s, true, Probe.EXPIRE, 1, 0, 0);
        changes(s, true, Probe.EXPIRE, 1, 9, 0);
        changes(s, false, Probe.BACK, 1, 9, 0);
        changes(s, false, Probe.SCORE, 1, 9, 0);
        changes(s, false, Probe.EXPIRE, 1, 101, 0);
        changes(s, true, Probe.DROP, 1, 9, 0);
        changes(s, true, Probe.ADD, 1, 0, 0);
    }

    private static void whatChangesAList() {
        Probe s = new Probe();
        changes(s, false, Probe.TAKE, 1, 0, 0);
        changes(s, true, Probe.FRONT, 1, 5, 0);
        changes(s, true, Probe.BACK, 1, 5, 0);
        changes(s, false, Probe.ADD, 1, 5, 0);
        changes(s, true, Probe.TAKE, 1, 0, 0);
        changes(s, true, Probe.TAKE, 1, 1, 0);
        s.fill(1, 0, 1, 2, 3, 4, 5, 6, 7, 8, 9, 10, 11);
        changes(s, false, Probe.FRONT, 1, 5, 0);
        changes(s, false, Probe.BACK, 1, 5, 0);
        changes(s, true, Probe.DROP, 1, 5, 0);
    }

    private static void whatChangesARanking() {
        Probe s = new Probe();
        changes(s, false, Probe.LEAST, 1, 0, 0);
        changes(s, false, Probe.STRIKE, 1, 0, 0);
        changes(s, true, Probe.SCORE, 1, 5, 7);
        changes(s, false, Probe.SCORE, 1, 5, 7);
        changes(s, true, Probe.SCORE, 1, 5, 8);
        changes(s, true, Probe.RAISE, 1, 5, 0);
        changes(s, true, Probe.RAISE, 1, 6, 0);
        changes(s, false, Probe.SCORE, 1, 5, 8);
        changes(s, true, Probe.SCORE, 1, 5, 9);
        changes(s, false, Probe.STRIKE, 1, 7, 0);
        changes(s, true, Probe.STRIKE, 1, 6, 0);
        changes(s, true, Probe.LEAST, 1, 6, 0);
        for (int m = 0; m < 12; m++) {
            s.command(0, Probe.SCORE, 1, m, 0).is(1);
        }
        changes(s, false, Probe.SCORE, 1, 12, 0);
        changes(s, false, Probe.RAISE, 1, 12, 0);
    }

    private static void renamingChangesBothKeys() {
        Probe s = new Probe();
        s.watch(2, 0).is(true);
        s.watch(2, 1).is(true);
        s.command(0, Probe.RENAME, 0, 1, 0).is(0);
        s.deceived(false);
        s.command(0, Probe.PUT, 0, 1, 0).is(0);
        s.watch(2, 0).is(true);
        s.command(0, Probe.RENAME, 0, 1, 0).is(1);
        s.deceived(true);
        s.watch(2, 0).is(true);
        s.command(0, Probe.RENAME, 1, 0, 0).is(1);
        s.deceived(true);
        s.watch(2, 2).is(true);
        s.command(0, Probe.RENAME, 0, 1, 0).is(1);
        s.deceived(false);
    }

    private static void deadlinesChangeKeys() {
        Probe s = new Probe();
        s.command(0, Probe.PUT, 0, 1, 0).is(0);
        s.command(0, Probe.EXPIRE, 0, 5, 0).is(1);
        s.watch(2, 0).is(true);
        s.tick(4).is(0);
        s.deceived(false);
        s.watch(2, 0).is(true);
        s.begin(2).is(true);
        s.command(2, Probe.PUT, 1, 1, 0).is(Probe.QUEUED);
        s.tick(1).is(1);
        s.commit(2).is(-2);
        s.ask(1, 0).is(Probe.NOTHING);
    }

    private static void takingChangesKeys() {
        Probe s = new Probe();
        s.fill(0, 1, 2);
        s.watch(2, 0).is(true);
        s.listen(1, 0, 0, 0).is(1);
        s.deceived(true);
        s.watch(2, 0).is(true);
        s.listen(2, 0, 0, 0).is(2);
        s.deceived(true);
        s.listen(1, 0, 0, 0).is(Probe.NONE);
        s.watch(2, 0).is(true);
        s.deceived(false);
        // A client that waits goes on watching.
        s.watch(0, 0).is(true);
        s.listen(0, 4, 4, 1).is(Probe.NONE);
        s.fill(0, 3);
        s.tick(1).is(0);
        s.begin(0).is(true);
        s.commit(0).is(-2);
    }

    private static void noGathering() {
        Probe s = new Probe();
        s.commit(0).is(-1);
        s.listen(0, 0, 0, 0).is(Probe.NONE);
        s.commit(0).is(-1);
        s.got(0, 0).is(Probe.WAITING);
        int[] noClients = {-1, 4, Probe.LOW, Probe.HIGH};
        for (int client : noClients) {
            s.commit(client).is(-1);
        }
    }
}
