/** Promise 5: commit. */
public final class CommitTest {
    public static void main(String[] args) {
        isReadyAfterwards();
        watchesNothingAfterwards();
        deceivedIsMinusTwo();
        deceivedDoesNothing();
        deceivedForgetsTheCommands();
        deceivedWatchesNothingAfterwards();
        otherClientsAreDeceivedForThemselves();
        doesTheCommandsInTheirOrder();
        doesThemOnWhatTheKeysAreThen();
        answersHowManyThereWere();
        failedCommandsCountToo();
        readyIsMinusOne();
        waitingIsMinusOne();
        noSuchClientIsMinusOne();
        Probe.finish();
    }

    /** "A client that is GATHERING is READY" */
    private static void isReadyAfterwards() {
        for (int client = 0; client < 4; client++) {
            Probe s = new Probe();
            s.begin((client + 1) % 4).is(true);
            s.begin(client).is(true);
            s.commit(client).is(0);
            s.got(client, 0).is(Probe.READY);
            s.got((client + 1) % 4, 0).is(Probe.GATHERING);
        }
    }

    /** "and watches nothing": none of its keys. */
    private static void watchesNothingAfterwards() {
        Probe s = new Probe();
        for (int key = 0; key < 8; key++) {
            s.watch(2, key).is(true);
        }
        s.deceived(2, false);
        for (int key = 0; key < 8; key++) {
            s.put(key, 1).is(0);
        }
        s.deceived(2, false);
    }

    /** "If it is deceived: -2" */
    private static void deceivedIsMinusTwo() {
        for (int client = 0; client < 3; client++) {
            Probe s = new Probe();
            s.watch(client, 5).is(true);
            s.begin(client).is(true);
            s.put(5, 1).is(0);
            s.commit(client).is(-2);
            s.got(client, 0).is(Probe.READY);
        }
    }

    /** "nothing is done" */
    private static void deceivedDoesNothing() {
        Probe s = new Probe();
        s.watch(0, 5).is(true);
        s.begin(0).is(true);
        s.command(0, Probe.PUT, 0, 5, 0).is(Probe.QUEUED);
        s.command(0, Probe.ADD, 5, 5, 0).is(Probe.QUEUED);
        s.put(5, 1).is(0);
        s.watch(2, 0).is(true);
        s.commit(0).is(-2);
        s.isNothing(0);
        s.isNumber(5, 1);
        s.result(0, 0).is(Probe.NONE);
        s.deceived(2, false);
    }

    private static void deceivedForgetsTheCommands() {
        Probe s = new Probe();
        s.watch(0, 5).is(true);
        s.begin(0).is(true);
        s.command(0, Probe.PUT, 0, 5, 0).is(Probe.QUEUED);
        s.put(5, 1).is(0);
        s.commit(0).is(-2);
        s.begin(0).is(true);
        s.command(0, Probe.PUT, 1, 6, 0).is(Probe.QUEUED);
        s.commit(0).is(1);
        s.isNothing(0);
        s.isNumber(1, 6);
    }

    /** "and watches nothing. If it is deceived": then, too. */
    private static void deceivedWatchesNothingAfterwards() {
        Probe s = new Probe();
        s.watch(2, 4).is(true);
        s.watch(2, 5).is(true);
        s.put(5, 1).is(0);
        s.deceived(2, true);
        s.deceived(2, false);
        s.put(4, 1).is(0);
        s.deceived(2, false);
    }

    private static void otherClientsAreDeceivedForThemselves() {
        Probe s = new Probe();
        for (int client = 0; client < 3; client++) {
            s.watch(client, 4 + client).is(true);
        }
        s.put(5, 1).is(0);
        s.deceived(0, false);
        s.deceived(1, true);
        s.deceived(2, false);
        s.watch(0, 5).is(true);
        s.watch(1, 5).is(true);
        s.deceived(0, false);
        s.put(5, 1).is(0);
        s.deceived(1, true);
    }

    /** "Else its commands are done in their order" */
    private static void doesTheCommandsInTheirOrder() {
        Probe s = new Probe();
        s.begin(0).is(true);
        s.command(0, Probe.PUT, 0, 5, 0).is(Probe.QUEUED);
        s.command(0, Probe.ADD, 0, 2, 0).is(Probe.QUEUED);
        s.command(0, Probe.RENAME, 0, 2, 0).is(Probe.QUEUED);
        s.command(0, Probe.SCORE, 1, 4, -3).is(Probe.QUEUED);
        s.command(0, Probe.RAISE, 1, 4, 1).is(Probe.QUEUED);
        s.command(0, Probe.EXPIRE, 1, 9, 0).is(Probe.QUEUED);
        s.command(0, Probe.BACK, 3, 1, 0).is(Probe.QUEUED);
        s.command(0, Probe.FRONT, 3, 2, 0).is(Probe.QUEUED);
        s.commit(0).is(8);
        s.isNothing(0);
        s.isNumber(2, 7);
        s.member(1, 4, 0).is(-2);
        s.ask(1, 3).is(9);
        s.isList(3, 2, 1);
    }

    /** The deadline of a queued EXPIRE counts from the time of the commit. */
    private static void doesThemOnWhatTheKeysAreThen() {
        Probe s = new Probe();
        s.begin(0).is(true);
        s.command(0, Probe.ADD, 0, 2, 0).is(Probe.QUEUED);
        s.command(0, Probe.EXPIRE, 0, 5, 0).is(Probe.QUEUED);
        s.put(0, 100).is(0);
        s.tick(7).is(0);
        s.commit(0).is(2);
        s.isNumber(0, 102);
        s.ask(0, 3).is(5);
    }

    /** "how many there were": 0 to 8. */
    private static void answersHowManyThereWere() {
        Probe s = new Probe();
        for (int count = 0; count <= 8; count++) {
            s.begin(0).is(true);
            for (int i = 0; i < count; i++) {
                s.command(0, Probe.ADD, 0, 1, 0).is(Probe.QUEUED);
            }
            s.commit(0).is(count);
        }
        s.isNumber(0, 36);
    }

    /** "how many there were": and those after a WRONG one are done, too. */
    private static void failedCommandsCountToo() {
        Probe s = new Probe();
        s.put(0, 1).is(0);
        s.begin(1).is(true);
        s.command(1, Probe.BACK, 0, 1, 0).is(Probe.QUEUED);
        s.command(1, Probe.TAKE, 1, 1, 0).is(Probe.QUEUED);
        s.command(1, Probe.ADD, 0, 1, 0).is(Probe.QUEUED);
        s.commit(1).is(3);
        s.isNumber(0, 2);
    }

    /** "-1 if it is not GATHERING": and it still watches. */
    private static void readyIsMinusOne() {
        Probe s = new Probe();
        s.commit(2).is(-1);
        s.watch(2, 5).is(true);
        s.commit(2).is(-1);
        s.put(5, 1).is(0);
        s.deceived(2, true);
        s.commit(2).is(-1);
    }

    /** "-1 if it is not GATHERING": and it goes on waiting. */
    private static void waitingIsMinusOne() {
        Probe s = new Probe();
        s.watch(2, 5).is(true);
        s.listen(2, 0, 0, 9).is(Probe.NONE);
        s.commit(2).is(-1);
        s.got(2, 0).is(Probe.WAITING);
        s.got(2, 3).is(9);
        s.put(5, 1).is(0);
        s.tick(9).is(0);
        s.deceived(2, true);
    }

    /** "-1 if it is not GATHERING" */
    private static void noSuchClientIsMinusOne() {
        Probe s = new Probe();
        for (int client = 0; client < 4; client++) {
            s.begin(client).is(true);
        }
        for (int client : Probe.outside(4)) {
            s.commit(client).is(-1);
        }
        for (int client = 0; client < 4; client++) {
            s.got(client, 0).is(Probe.GATHERING);
        }
    }
}
