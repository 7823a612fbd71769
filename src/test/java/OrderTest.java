/** Promise 18: which test comes first; how long an object lasts; and the constants of the public face. */
public final class OrderTest {
    public static void main(String[] args) {
        commitTestsGatheringFirst();
        commandRefusesBeforeItIsFull();
        commandRefusesBeforeItIsQueued();
        commandRefusesBeforeTheKeyIsFull();
        commandRefusesBeforeItIsWrong();
        commandRefusesBeforeAnythingElse();
        listenRefusesBeforeItIsWrong();
        listenRefusesBeforeItTakes();
        fiveHundredTwelveCommands();
        fiveHundredTwelveCallsOfWaiting();
        fiveHundredTwelveCallsOfTheLog();
        theConstants();
        Probe.finish();
    }

    /** "commit tests first whether the client is GATHERING (-1), then whether it is deceived (-2)" */
    private static void commitTestsGatheringFirst() {
        Probe s = new Probe();
        s.watch(2, 0).is(true);
        s.put(0, 1).is(0);
        s.commit(2).is(-1);
        s.listen(2, 7, 7, 1).is(Probe.NONE);
        s.commit(2).is(-1);
        s.tick(1).is(0);
        s.deceived(2, true);
    }

    /** "command and listen test REFUSED before FULL": that eight are queued. */
    private static void commandRefusesBeforeItIsFull() {
        Probe s = new Probe();
        s.begin(0).is(true);
        for (int i = 0; i < 8; i++) {
            s.command(0, Probe.BACK, 0, i, 0).is(Probe.QUEUED);
        }
        s.command(0, 12, 0, 0, 0).is(Probe.REFUSED);
        s.command(0, Probe.BACK, -1, 0, 0).is(Probe.REFUSED);
        s.command(0, Probe.SCORE, 0, 16, 0).is(Probe.REFUSED);
        s.command(0, Probe.EXPIRE, 0, 101, 0).is(Probe.REFUSED);
        s.command(0, Probe.RENAME, 0, 0, 0).is(Probe.REFUSED);
        s.command(0, Probe.RENAME, 0, 8, 0).is(Probe.REFUSED);
        s.command(0, Probe.BACK, 0, 8, 0).is(Probe.FULL);
    }

    private static void commandRefusesBeforeItIsQueued() {
        Probe s = new Probe();
        s.begin(0).is(true);
        s.command(0, -1, 0, 0, 0).is(Probe.REFUSED);
        s.command(0, Probe.BACK, 8, 0, 0).is(Probe.REFUSED);
        s.command(0, Probe.RAISE, 0, -1, 0).is(Probe.REFUSED);
        s.command(0, Probe.EXPIRE, 0, -1, 0).is(Probe.REFUSED);
        s.command(0, Probe.RENAME, 3, 3, 0).is(Probe.REFUSED);
        s.commit(0).is(0);
    }

    /** "REFUSED before FULL": that the ranking has twelve members. */
    private static void commandRefusesBeforeTheKeyIsFull() {
        Probe s = new Probe();
        s.rankUp(1);
        s.command(0, Probe.SCORE, 1, 16, 0).is(Probe.REFUSED);
        s.command(0, Probe.RAISE, 1, -1, 0).is(Probe.REFUSED);
        s.fillUp(2);
        s.listen(1, 7, 7, 0).is(Probe.NONE);
        s.command(1, Probe.BACK, 2, 0, 0).is(Probe.REFUSED);
    }

    /** "REFUSED before ... WRONG" */
    private static void commandRefusesBeforeItIsWrong() {
        Probe s = new Probe();
        s.put(0, 1).is(0);
        s.command(0, Probe.SCORE, 0, 16, 0).is(Probe.REFUSED);
        s.command(0, Probe.RAISE, 0, 16, 0).is(Probe.REFUSED);
        s.command(0, Probe.STRIKE, 0, -1, 0).is(Probe.REFUSED);
        s.command(4, Probe.BACK, 0, 0, 0).is(Probe.REFUSED);
        s.listen(1, 7, 7, 0).is(Probe.NONE);
        s.command(1, Probe.BACK, 0, 0, 0).is(Probe.REFUSED);
    }

    /** "REFUSED before ... all else": what they answer on a key that is NOTHING. */
    private static void commandRefusesBeforeAnythingElse() {
        Probe s = new Probe();
        s.command(0, Probe.EXPIRE, 2, 101, 0).is(Probe.REFUSED);
        s.command(0, Probe.RENAME, 2, 2, 0).is(Probe.REFUSED);
        s.command(0, Probe.STRIKE, 2, 16, 0).is(Probe.REFUSED);
        s.command(4, Probe.TAKE, 2, 0, 0).is(Probe.REFUSED);
        s.listen(1, 7, 7, 0).is(Probe.NONE);
        s.command(1, Probe.LEAST, 2, 0, 0).is(Probe.REFUSED);
    }

    private static void listenRefusesBeforeItIsWrong() {
        Probe s = new Probe();
        s.put(0, 1).is(0);
        s.listen(0, 0, 8, 0).is(Probe.REFUSED);
        s.listen(0, -1, 0, 0).is(Probe.REFUSED);
        s.listen(0, 0, 0, 51).is(Probe.REFUSED);
        s.listen(0, 0, 0, -1).is(Probe.REFUSED);
        s.listen(4, 0, 0, 0).is(Probe.REFUSED);
        s.begin(0).is(true);
        s.listen(0, 0, 0, 0).is(Probe.REFUSED);
        s.listen(1, 7, 7, 0).is(Probe.NONE);
        s.listen(1, 0, 0, 0).is(Probe.REFUSED);
    }

    private static void listenRefusesBeforeItTakes() {
        Probe s = new Probe();
        s.fill(1, 1);
        s.listen(0, 1, 8, 0).is(Probe.REFUSED);
        s.listen(0, -1, 1, 0).is(Probe.REFUSED);
        s.listen(0, 1, 1, 51).is(Probe.REFUSED);
        s.listen(4, 1, 1, 0).is(Probe.REFUSED);
        s.begin(0).is(true);
        s.listen(0, 1, 1, 0).is(Probe.REFUSED);
        s.listen(2, 7, 7, 0).is(Probe.NONE);
        s.listen(2, 1, 1, 0).is(Probe.REFUSED);
        s.isList(1, 1);
    }

    /** "An object is used for at most 512 calls": and up to the last one it answers as it must. */
    private static void fiveHundredTwelveCommands() {
        Probe s = new Probe();
        for (int i = 1; i <= 512; i++) {
            s.add(0, 1).is(i);
        }
    }

    private static void fiveHundredTwelveCallsOfWaiting() {
        Probe s = new Probe();
        for (int i = 0; i < 128; i++) {
            s.listen(0, 1, 2, 0).is(Probe.NONE);
            s.listen(1, 2, 1, 50).is(Probe.NONE);
            s.back(1, i).is(1);
            s.back(2, -i).is(1);
        }
        Probe last = new Probe();
        for (int i = 0; i < 170; i++) {
            last.listen(0, 1, 2, 0).is(Probe.NONE);
            last.back(1, i).is(1);
            last.got(0, 1).is(i);
        }
    }

    private static void fiveHundredTwelveCallsOfTheLog() {
        Probe s = new Probe();
        for (int i = 1; i <= 128; i++) {
            s.add(0, 1).is(i);
            s.sync();
            s.rewrite();
            s.crash().is(1);
        }
    }

    private static void theConstants() {
        constant("WRONG", WaitingStore.WRONG, 10000000001L);
        constant("EMPTY", WaitingStore.EMPTY, 10000000002L);
        constant("FULL", WaitingStore.FULL, 10000000003L);
        constant("REFUSED", WaitingStore.REFUSED, 10000000004L);
        constant("QUEUED", WaitingStore.QUEUED, 10000000005L);
        constant("NONE", WaitingStore.NONE, 10000000006L);
    }

    private static void constant(String name, long got, long want) {
        Probe.compare(got == want, name + " is " + got + ", due is " + want);
    }
}
