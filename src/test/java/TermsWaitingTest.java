/** Terms, third paragraph: clients, and how those that wait are served. */
public final class TermsWaitingTest {
    public static void main(String[] args) {
        clientsAreZeroToThree();
        waitsForTwoKeys();
        waitsForOneKeyTwice();
        servedAfterEachKindOfCommand();
        servedAfterAllOfACommit();
        aListThatIsGoneAfterACommitServesNobody();
        servedAsLongAsThereIsAList();
        servedAsLongAsSomebodyWaits();
        theLeastKeyIsFirst();
        theLongestWaitingIsFirst();
        theLongestWaitingOfThatKeyIsFirst();
        theEndOfWaitingIsNoLonger();
        theFirstElementIsTaken();
        oneElementForOneThatWaitsForTwo();
        theOneServedIsReady();
        otherKindsServeNobody();
        theCommandAnswersBeforeTheServing();
        aFailedCommitServesNobody();
        Probe.finish();
    }

    /** "CLIENTS 0..3" */
    private static void clientsAreZeroToThree() {
        Probe s = new Probe();
        for (int client = 0; client < 4; client++) {
            s.got(client, 0).is(Probe.READY);
            s.command(client, Probe.ADD, 0, 1, 0).is(client + 1);
        }
        for (int client : Probe.outside(4)) {
            s.got(client, 0).is(Probe.NONE);
            s.command(client, Probe.ADD, 0, 1, 0).is(Probe.REFUSED);
        }
        s.isNumber(0, 4);
    }

    /** "One that is WAITING waits for two keys" */
    private static void waitsForTwoKeys() {
        Probe s = new Probe();
        s.listen(0, 0, 7, 0).is(Probe.NONE);
        s.fill(1, 1);
        s.got(0, 0).is(Probe.WAITING);
        s.fill(0, 10);
        s.got(0, 1).is(10);
        s.got(0, 2).is(0);
        s.listen(0, 0, 7, 0).is(Probe.NONE);
        s.fill(7, 70);
        s.got(0, 1).is(70);
        s.got(0, 2).is(7);
    }

    /** "(or one twice)": and takes one element for all that. */
    private static void waitsForOneKeyTwice() {
        Probe s = new Probe();
        s.listen(0, 7, 7, 0).is(Probe.NONE);
        s.fill(1, 1, 2);
        s.rename(1, 7).is(1);
        s.got(0, 1).is(1);
        s.isList(7, 2);
    }

    /** "After each command": those that make a list. */
    private static void servedAfterEachKindOfCommand() {
        Probe s = new Probe();
        s.listen(0, 0, 0, 0).is(Probe.NONE);
        s.front(0, 7).is(1);
        s.got(0, 1).is(7);
        s.listen(0, 0, 0, 0).is(Probe.NONE);
        s.back(0, 8).is(1);
        s.got(0, 1).is(8);
        s.listen(0, 0, 0, 0).is(Probe.NONE);
        s.fill(1, 9);
        s.rename(1, 0).is(1);
        s.got(0, 1).is(9);
        s.isNothing(0);
    }

    /** "(of a commit: after all)" */
    private static void servedAfterAllOfACommit() {
        Probe s = new Probe();
        s.listen(0, 0, 0, 0).is(Probe.NONE);
        s.begin(1).is(true);
        s.command(1, Probe.BACK, 0, 1, 0).is(Probe.QUEUED);
        s.got(0, 0).is(Probe.WAITING);
        s.command(1, Probe.FRONT, 0, 2, 0).is(Probe.QUEUED);
        s.commit(1).is(2);
        s.result(1, 0).is(1);
        s.result(1, 1).is(2);
        s.got(0, 1).is(2);
        s.isList(0, 1);
    }

    /** "(of a commit: after all)" */
    private static void aListThatIsGoneAfterACommitServesNobody() {
        Probe s = new Probe();
        s.listen(0, 0, 0, 0).is(Probe.NONE);
        s.begin(1).is(true);
        s.command(1, Probe.BACK, 0, 1, 0).is(Probe.QUEUED);
        s.command(1, Probe.TAKE, 0, 0, 0).is(Probe.QUEUED);
        s.command(1, Probe.BACK, 0, 2, 0).is(Probe.QUEUED);
        s.command(1, Probe.DROP, 0, 0, 0).is(Probe.QUEUED);
        s.command(1, Probe.BACK, 0, 3, 0).is(Probe.QUEUED);
        s.command(1, Probe.RENAME, 0, 5, 0).is(Probe.QUEUED);
        s.commit(1).is(6);
        s.result(1, 1).is(1);
        s.result(1, 3).is(1);
        s.got(0, 0).is(Probe.WAITING);
        s.isList(5, 3);
    }

    /** "as long as some key is a list" */
    private static void servedAsLongAsThereIsAList() {
        Probe s = new Probe();
        s.listen(0, 1, 1, 0).is(Probe.NONE);
        s.listen(1, 1, 1, 0).is(Probe.NONE);
        s.listen(2, 1, 1, 0).is(Probe.NONE);
        s.fill(7, 1, 2);
        s.rename(7, 1).is(1);
        s.got(0, 1).is(1);
        s.got(1, 1).is(2);
        s.got(2, 0).is(Probe.WAITING);
        s.isNothing(1);
    }

    /** "and some client waits for it": here three of four, more than one list gives. */
    private static void servedAsLongAsSomebodyWaits() {
        Probe s = new Probe();
        s.listen(0, 1, 1, 0).is(Probe.NONE);
        s.listen(1, 1, 1, 0).is(Probe.NONE);
        s.listen(2, 2, 2, 0).is(Probe.NONE);
        s.begin(3).is(true);
        s.command(3, Probe.BACK, 2, 20, 0).is(Probe.QUEUED);
        s.command(3, Probe.BACK, 2, 21, 0).is(Probe.QUEUED);
        s.command(3, Probe.BACK, 1, 10, 0).is(Probe.QUEUED);
        s.command(3, Probe.BACK, 1, 11, 0).is(Probe.QUEUED);
        s.command(3, Probe.BACK, 1, 12, 0).is(Probe.QUEUED);
        s.commit(3).is(5);
        s.got(0, 1).is(10);
        s.got(1, 1).is(11);
        s.got(2, 1).is(20);
        s.isList(1, 12);
        s.isList(2, 21);
    }

    /** "of the least such key": though another has waited longer for a greater one. */
    private static void theLeastKeyIsFirst() {
        Probe s = new Probe();
        s.listen(0, 6, 6, 0).is(Probe.NONE);
        s.listen(1, 6, 5, 0).is(Probe.NONE);
        s.begin(2).is(true);
        s.command(2, Probe.BACK, 6, 60, 0).is(Probe.QUEUED);
        s.command(2, Probe.BACK, 5, 50, 0).is(Probe.QUEUED);
        s.command(2, Probe.BACK, 4, 40, 0).is(Probe.QUEUED);
        s.commit(2).is(3);
        s.got(1, 1).is(50);
        s.got(1, 2).is(5);
        s.got(0, 1).is(60);
        s.got(0, 2).is(6);
        s.isList(4, 40);
        s.listen(0, 7, 3, 0).is(Probe.NONE);
        s.begin(2).is(true);
        s.command(2, Probe.BACK, 7, 70, 0).is(Probe.QUEUED);
        s.command(2, Probe.BACK, 3, 30, 0).is(Probe.QUEUED);
        s.commit(2).is(2);
        s.got(0, 2).is(3);
        s.isList(7, 70);
    }

    /** "the client that has waited longest": not the one with the least number or the earliest end. */
    private static void theLongestWaitingIsFirst() {
        Probe s = new Probe();
        s.listen(2, 0, 0, 0).is(Probe.NONE);
        s.listen(0, 0, 0, 50).is(Probe.NONE);
        s.tick(1).is(0);
        s.listen(1, 1, 0, 1).is(Probe.NONE);
        s.fill(0, 1);
        s.got(2, 1).is(1);
        s.got(0, 0).is(Probe.WAITING);
        s.got(1, 0).is(Probe.WAITING);
        s.fill(0, 2);
        s.got(0, 1).is(2);
        s.got(1, 0).is(Probe.WAITING);
        s.fill(0, 3);
        s.got(1, 1).is(3);
        s.isNothing(0);
    }

    /** "of the least such key the client": one that waits for others does not stand in the way. */
    private static void theLongestWaitingOfThatKeyIsFirst() {
        Probe s = new Probe();
        s.listen(0, 1, 2, 0).is(Probe.NONE);
        s.listen(2, 3, 4, 0).is(Probe.NONE);
        s.listen(1, 4, 3, 0).is(Probe.NONE);
        s.fill(3, 30);
        s.got(0, 0).is(Probe.WAITING);
        s.got(2, 1).is(30);
        s.got(1, 0).is(Probe.WAITING);
        s.fill(3, 31);
        s.got(1, 1).is(31);
    }

    /** "that has waited longest": by the waiting that goes on, not by one that is over. */
    private static void theEndOfWaitingIsNoLonger() {
        Probe s = new Probe();
        s.listen(0, 0, 0, 5).is(Probe.NONE);
        s.tick(3).is(0);
        s.listen(1, 0, 0, 0).is(Probe.NONE);
        s.tick(2).is(0);
        s.listen(0, 0, 0, 0).is(Probe.NONE);
        s.fill(0, 1);
        s.got(1, 1).is(1);
        s.got(0, 0).is(Probe.WAITING);
        s.listen(1, 0, 0, 0).is(Probe.NONE);
        s.fill(0, 2);
        s.got(0, 1).is(2);
        s.got(1, 0).is(Probe.WAITING);
    }

    /** "takes the first element" */
    private static void theFirstElementIsTaken() {
        Probe s = new Probe();
        s.listen(0, 0, 0, 0).is(Probe.NONE);
        s.fill(7, 5, 6, 7);
        s.rename(7, 0).is(1);
        s.got(0, 1).is(5);
        s.isList(0, 6, 7);
    }

    private static void oneElementForOneThatWaitsForTwo() {
        Probe s = new Probe();
        s.listen(0, 1, 0, 0).is(Probe.NONE);
        s.begin(2).is(true);
        s.command(2, Probe.BACK, 1, 10, 0).is(Probe.QUEUED);
        s.command(2, Probe.BACK, 0, 20, 0).is(Probe.QUEUED);
        s.commit(2).is(2);
        s.got(0, 1).is(20);
        s.isNothing(0);
        s.isList(1, 10);
    }

    /** "and is READY" */
    private static void theOneServedIsReady() {
        Probe s = new Probe();
        s.listen(0, 1, 2, 5).is(Probe.NONE);
        s.fill(1, 10);
        s.got(0, 0).is(Probe.READY);
        s.got(0, 3).is(Probe.NONE);
        s.fill(2, 20);
        s.isList(2, 20);
        s.got(0, 1).is(10);
        s.tick(5).is(0);
        s.got(0, 1).is(10);
        s.begin(0).is(true);
    }

    private static void otherKindsServeNobody() {
        Probe s = new Probe();
        s.listen(0, 1, 2, 0).is(Probe.NONE);
        s.put(1, 10).is(0);
        s.score(2, 2, 20).is(1);
        s.got(0, 0).is(Probe.WAITING);
        s.isNumber(1, 10);
        s.isRanking(2, 2);
        s.fill(3, 30);
        s.rename(3, 2).is(1);
        s.got(0, 1).is(30);
        s.got(0, 2).is(2);
    }

    /** "After each command": what it answers is told before. */
    private static void theCommandAnswersBeforeTheServing() {
        Probe s = new Probe();
        s.listen(0, 1, 1, 0).is(Probe.NONE);
        s.back(1, 10).is(1);
        s.isNothing(1);
        s.back(1, 11).is(1);
        s.isList(1, 11);
    }

    private static void aFailedCommitServesNobody() {
        Probe s = new Probe();
        s.listen(0, 1, 1, 0).is(Probe.NONE);
        s.watch(2, 5).is(true);
        s.begin(2).is(true);
        s.command(2, Probe.BACK, 1, 10, 0).is(Probe.QUEUED);
        s.put(5, 1).is(0);
        s.commit(2).is(-2);
        s.got(0, 0).is(Probe.WAITING);
        s.isNothing(1);
    }
}
