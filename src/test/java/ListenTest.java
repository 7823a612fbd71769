/** Promise 3: listen, and how clients that wait are served. */
public final class ListenTest {
    public static void main(String[] args) {
        takesAtOnce();
        takesTheLastElementAndTheDeadline();
        wrongKinds();
        waitsForBothKeys();
        refused();
        longestWaiterIsFirst();
        leastKeyIsFirst();
        everyCommandCanServe();
        servedAfterTheWholeCommit();
        servedAsLongAsThereIsSomething();
        waitingAgainIsWaitingAnew();
        Probe.finish();
    }

    private static void takesAtOnce() {
        Probe s = new Probe();
        s.fill(1, 10, 11);
        s.fill(2, 20, 21);
        s.listen(0, 1, 2, 0).is(10);
        s.listen(0, 2, 1, 50).is(20);
        s.listen(0, 3, 1, 1).is(11);
        s.got(0, 0).is(Probe.READY);
        s.got(0, 2).is(1);
        s.listen(0, 1, 2, 0).is(21);
        s.got(0, 2).is(2);
        s.ask(1, 0).is(Probe.NOTHING);
        s.ask(2, 0).is(Probe.NOTHING);
    }

    private static void takesTheLastElementAndTheDeadline() {
        Probe s = new Probe();
        s.fill(1, 10);
        s.command(0, Probe.EXPIRE, 1, 5, 0).is(1);
        s.listen(0, 1, 1, 0).is(10);
        s.ask(1, 3).is(-1);
        s.fill(1, 11);
        s.ask(1, 3).is(-1);
    }

    private static void wrongKinds() {
        Probe s = new Probe();
        s.command(0, Probe.PUT, 1, 1, 0).is(0);
        s.command(0, Probe.SCORE, 2, 1, 1).is(1);
        s.fill(3, 30);
        int[] wrong = {1, 2};
        for (int key : wrong) {
            s.listen(0, key, 0, 0).is(Probe.WRONG);
            s.listen(0, 0, key, 0).is(Probe.WRONG);
            s.listen(0, key, key, 0).is(Probe.WRONG);
            s.listen(0, key, 3, 0).is(Probe.WRONG);
            s.listen(0, 3, key, 0).is(Probe.WRONG);
        }
        s.listen(0, 1, 2, 0).is(Probe.WRONG);
        s.got(0, 0).is(Probe.READY);
        s.holds(3, 30);
    }

    private static void waitsForBothKeys() {
        Probe s = new Probe();
        s.listen(0, 4, 5, 0).is(Probe.NONE);
        s.listen(1, 5, 6, 50).is(Probe.NONE);
        s.got(0, 0).is(Probe.WAITING);
        s.got(0, 3).is(Probe.NONE);
        s.got(1, 3).is(50);
        s.fill(6, 66);
        s.got(1, 1).is(66);
        s.got(1, 2).is(6);
        s.got(1, 0).is(Probe.READY);
        s.got(0, 0).is(Probe.WAITING);
        s.fill(5, 55);
        s.got(0, 1).is(55);
        s.got(0, 2).is(5);
        s.fill(4, 44);
        s.holds(4, 44);
    }

    private static void refused() {
        Probe s = new Probe();
        int[] none = {-1, 8, Probe.LOW, Probe.HIGH};
        for (int i : none) {
            s.listen(i, 0, 0, 0).is(Probe.REFUSED);
            s.listen(0, i, 0, 0).is(Probe.REFUSED);
            s.listen(0, 0, i, 0).is(Probe.REFUSED);
        }
        s.listen(4, 0, 0, 0).is(Probe.REFUSED);
        s.listen(0, 0, 0, -1).is(Probe.REFUSED);
        s.listen(0, 0, 0, 51).is(Probe.REFUSED);
        s.listen(0, 0, 0, Probe.LOW).is(Probe.REFUSED);
        s.listen(0, 0, 0, Probe.HIGH).is(Probe.REFUSED);
        s.got(0, 0).is(Probe.READY);
        s.begin(0).is(true);
        s.listen(0, 0, 0, 0).is(Probe.REFUSED);
        s.got(0, 0).is(Probe.GATHERING);
        s.listen(1, 0, 0, 0).is(Probe.NONE);
        s.listen(1, 1, 1, 7).is(Probe.REFUSED);
        s.got(1, 3).is(Probe.NONE);
    }

    private static void longestWaiterIsFirst() {
        Probe s = new Probe();
        s.listen(2, 0, 0, 0).is(Probe.NONE);
        s.listen(0, 0, 0, 0).is(Probe.NONE);
        s.listen(1, 1, 0, 0).is(Probe.NONE);
        s.fill(0, 1);
        s.got(2, 1).is(1);
        s.got(0, 0).is(Probe.WAITING);
        s.fill(0, 2);
        s.got(0, 1).is(2);
        s.fill(0, 3);
        s.got(1, 1).is(3);
        s.holds(0);
    }

    private static void leastKeyIsFirst() {
        Probe s = new Probe();
        s.listen(0, 6, 6, 0).is(Probe.NONE);
        s.listen(1, 6, 5, 0).is(Probe.NONE);
        s.begin(2).is(true);
        s.command(2, Probe.BACK, 6, 60, 0).is(Probe.QUEUED);
        s.command(2, Probe.BACK, 5, 50, 0).is(Probe.QUEUED);
        s.command(2, Probe.BACK, 4, 40, 0).is(Probe.QUEUED);
        s.commit(2).is(3);
        s.got(1, 1).is(50);
        s.got(1, 2).is(5);
        s.got(0, 1).is(60);
        s.holds(4, 40);
    }

    private static void everyCommandCanServe() {
        Probe s = new Probe();
        s.listen(0, 0, 0, 0).is(Probe.NONE);
        s.command(1, Probe.FRONT, 0, 7, 0).is(1);
        s.got(0, 1).is(7);
        s.listen(0, 0, 0, 0).is(Probe.NONE);
        s.fill(1, 8, 9);
        s.command(1, Probe.RENAME, 1, 0, 0).is(1);
        s.got(0, 1).is(8);
        s.holds(0, 9);
        s.listen(0, 2, 3, 0).is(Probe.NONE);
        s.command(1, Probe.PUT, 2, 1, 0).is(0);
        s.command(1, Probe.SCORE, 3, 1, 1).is(1);
        s.got(0, 0).is(Probe.WAITING);
        s.command(1, Probe.DROP, 2, 0, 0).is(1);
        s.command(1, Probe.BACK, 2, 5, 0).is(1);
        s.got(0, 1).is(5);
    }

    private static void servedAfterTheWholeCommit() {
        Probe s = new Probe();
        s.listen(0, 0, 0, 0).is(Probe.NONE);
        s.begin(1).is(true);
        s.command(1, Probe.BACK, 0, 1, 0).is(Probe.QUEUED);
        s.command(1, Probe.FRONT, 0, 2, 0).is(Probe.QUEUED);
        s.command(1, Probe.TAKE, 0, 1, 0).is(Probe.QUEUED);
        s.got(0, 0).is(Probe.WAITING);
        s.commit(1).is(3);
        s.result(1, 1).is(2);
        s.result(1, 2).is(1);
        s.got(0, 1).is(2);
        s.listen(0, 0, 0, 0).is(Probe.NONE);
        s.begin(1).is(true);
        s.command(1, Probe.BACK, 0, 1, 0).is(Probe.QUEUED);
        s.command(1, Probe.DROP, 0, 0, 0).is(Probe.QUEUED);
        s.commit(1).is(2);
        s.result(1, 1).is(1);
        s.got(0, 0).is(Probe.WAITING);
    }

    private static void servedAsLongAsThereIsSomething() {
        Probe s = new Probe();
        s.listen(2, 0, 1, 0).is(Probe.NONE);
        s.listen(1, 1, 0, 0).is(Probe.NONE);
        s.listen(0, 1, 1, 0).is(Probe.NONE);
        s.fill(7, 1, 2, 3, 4);
        s.command(3, Probe.RENAME, 7, 1, 0).is(1);
        s.got(2, 1).is(1);
        s.got(1, 1).is(2);
        s.got(0, 1).is(3);
        s.holds(1, 4);
    }

    private static void waitingAgainIsWaitingAnew() {
        Probe s = new Probe();
        s.listen(0, 0, 0, 5).is(Probe.NONE);
        s.tick(3).is(0);
        s.listen(1, 0, 0, 0).is(Probe.NONE);
        s.tick(2).is(0);
        s.listen(0, 0, 0, 0).is(Probe.NONE);
        s.fill(0, 1);
        s.got(1, 1).is(1);
        s.got(0, 0).is(Probe.WAITING);
    }
}
