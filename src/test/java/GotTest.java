/** Promise 9: got. */
public final class GotTest {
    public static void main(String[] args) {
        theState();
        theElementTakenAtOnce();
        theElementTakenAfterWaiting();
        noneWhileItWaits();
        noneIfItsWaitingEnded();
        refusedForgetsNothing();
        wrongForgetsNothing();
        takeIsNoListen();
        noneWithoutAListen();
        eachClientForItself();
        theTimeLeft();
        noTimeLeftWithoutAnEnd();
        noTimeLeftIfItIsNotWaiting();
        noSuchWhatIsNone();
        noSuchClientIsNone();
        Probe.finish();
    }

    /** "Of a client what 0: its state" */
    private static void theState() {
        Probe s = new Probe();
        s.got(1, 0).is(Probe.READY);
        s.begin(1).is(true);
        s.got(1, 0).is(Probe.GATHERING);
        s.cancel(1).is(true);
        s.listen(1, 0, 0, 0).is(Probe.NONE);
        s.got(1, 0).is(Probe.WAITING);
        s.fill(0, 1);
        s.got(1, 0).is(Probe.READY);
    }

    private static void took(Probe s, int client, long element, long key) {
        s.got(client, 1).is(element);
        s.got(client, 2).is(key);
    }

    /** "1: the element that it took by its latest listen", "2: the key of that" */
    private static void theElementTakenAtOnce() {
        Probe s = new Probe();
        s.fill(0, Probe.LOW, 0);
        s.fill(7, Probe.HIGH);
        s.listen(1, 6, 0, 0).is(Probe.LOW);
        took(s, 1, Probe.LOW, 0);
        s.listen(1, 7, 0, 0).is(Probe.HIGH);
        took(s, 1, Probe.HIGH, 7);
        s.listen(1, 0, 7, 0).is(0);
        took(s, 1, 0, 0);
    }

    private static void theElementTakenAfterWaiting() {
        Probe s = new Probe();
        s.listen(1, 7, 0, 4).is(Probe.NONE);
        s.fill(7, Probe.HIGH);
        took(s, 1, Probe.HIGH, 7);
        s.listen(1, 7, 0, 4).is(Probe.NONE);
        s.fill(0, 0);
        took(s, 1, 0, 0);
    }

    /** "both NONE if it took none": not yet, though by an earlier listen. */
    private static void noneWhileItWaits() {
        Probe s = new Probe();
        s.fill(3, 30);
        s.listen(1, 3, 3, 0).is(30);
        s.listen(1, 3, 3, 0).is(Probe.NONE);
        took(s, 1, Probe.NONE, Probe.NONE);
    }

    /** "both NONE if it took none": and never will. */
    private static void noneIfItsWaitingEnded() {
        Probe s = new Probe();
        s.fill(3, 30);
        s.listen(1, 3, 3, 0).is(30);
        s.listen(1, 3, 3, 4).is(Probe.NONE);
        s.tick(4).is(0);
        s.got(1, 0).is(Probe.READY);
        took(s, 1, Probe.NONE, Probe.NONE);
        s.fill(3, 31);
        took(s, 1, Probe.NONE, Probe.NONE);
    }

    /** "its latest listen that was not REFUSED or WRONG" */
    private static void refusedForgetsNothing() {
        Probe s = new Probe();
        s.fill(3, 30, 31);
        s.listen(1, 3, 3, 0).is(30);
        s.listen(1, 3, 3, 51).is(Probe.REFUSED);
        s.listen(1, 8, 3, 0).is(Probe.REFUSED);
        s.begin(1).is(true);
        s.listen(1, 4, 4, 0).is(Probe.REFUSED);
        took(s, 1, 30, 3);
    }

    private static void wrongForgetsNothing() {
        Probe s = new Probe();
        s.fill(3, 30, 31);
        s.put(4, 1).is(0);
        s.listen(1, 3, 3, 0).is(30);
        s.listen(1, 4, 3, 0).is(Probe.WRONG);
        s.listen(1, 5, 4, 0).is(Probe.WRONG);
        took(s, 1, 30, 3);
    }

    private static void takeIsNoListen() {
        Probe s = new Probe();
        s.fill(3, 30, 31);
        s.listen(1, 3, 3, 0).is(30);
        s.command(1, Probe.TAKE, 3, 0, 0).is(31);
        took(s, 1, 30, 3);
    }

    private static void noneWithoutAListen() {
        Probe s = new Probe();
        for (int client = 0; client < 4; client++) {
            took(s, client, Probe.NONE, Probe.NONE);
        }
    }

    private static void eachClientForItself() {
        Probe s = new Probe();
        s.fill(3, 30, 31, 32, 33);
        for (int client = 0; client < 4; client++) {
            s.listen(client, 3, 3, 0).is(30 + client);
        }
        s.listen(0, 4, 4, 9).is(Probe.NONE);
        took(s, 0, Probe.NONE, Probe.NONE);
        for (int client = 1; client < 4; client++) {
            took(s, client, 30 + client, 3);
            s.got(client, 0).is(Probe.READY);
            s.got(client, 3).is(Probe.NONE);
        }
    }

    /** "3: how much time is left to its end of waiting" */
    private static void theTimeLeft() {
        Probe s = new Probe();
        s.tick(10).is(0);
        s.listen(1, 0, 0, 50).is(Probe.NONE);
        s.got(1, 3).is(50);
        s.tick(0).is(0);
        s.got(1, 3).is(50);
        s.tick(49).is(0);
        s.got(1, 3).is(1);
        s.tick(1).is(0);
        s.got(1, 3).is(Probe.NONE);
    }

    /** "NONE without one" */
    private static void noTimeLeftWithoutAnEnd() {
        Probe s = new Probe();
        s.listen(1, 0, 0, 5).is(Probe.NONE);
        s.fill(0, 1);
        s.listen(1, 0, 0, 0).is(Probe.NONE);
        s.got(1, 3).is(Probe.NONE);
        s.tick(50).is(0);
        s.got(1, 3).is(Probe.NONE);
    }

    /** "or if it is not WAITING": though an end that it waited for is still to come. */
    private static void noTimeLeftIfItIsNotWaiting() {
        Probe s = new Probe();
        s.got(1, 3).is(Probe.NONE);
        s.listen(1, 0, 0, 5).is(Probe.NONE);
        s.fill(0, 1);
        s.got(1, 3).is(Probe.NONE);
        s.begin(1).is(true);
        s.got(1, 3).is(Probe.NONE);
    }

    /** "NONE for others" */
    private static void noSuchWhatIsNone() {
        Probe s = new Probe();
        s.listen(1, 0, 0, 5).is(Probe.NONE);
        for (int what : Probe.outside(4)) {
            s.got(0, what).is(Probe.NONE);
            s.got(1, what).is(Probe.NONE);
        }
    }

    /** "NONE for others" */
    private static void noSuchClientIsNone() {
        Probe s = new Probe();
        for (int client : Probe.outside(4)) {
            for (int what = 0; what < 4; what++) {
                s.got(client, what).is(Probe.NONE);
            }
        }
    }
}
