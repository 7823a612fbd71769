/** Promise 10: tick. */
public final class TickTest {
    public static void main(String[] args) {
        keysExpire();
        expiredKeysAreNothing();
        waitingEnds();
        outOfRange();
        Probe.finish();
    }

    private static void keysExpire() {
        Probe s = new Probe();
        for (int key = 0; key < 8; key++) {
            s.command(0, Probe.PUT, key, 1, 0).is(0);
            s.command(0, Probe.EXPIRE, key, key * 10, 0).is(1);
        }
        s.tick(9).is(0);
        s.tick(1).is(1);
        s.ask(1, 0).is(Probe.NOTHING);
        s.tick(0).is(0);
        s.tick(25).is(2);
        s.ask(4, 3).is(5);
        s.tick(50).is(4);
        s.tick(50).is(0);
        s.ask(0, 0).is(Probe.NUMBER);
    }

    private static void expiredKeysAreNothing() {
        Probe s = new Probe();
        s.fill(0, 1, 2);
        s.command(0, Probe.SCORE, 1, 1, 1).is(1);
        s.command(0, Probe.EXPIRE, 0, 3, 0).is(1);
        s.command(0, Probe.EXPIRE, 1, 3, 0).is(1);
        s.tick(4).is(2);
        for (int key = 0; key < 2; key++) {
            s.ask(key, 0).is(Probe.NOTHING);
            s.ask(key, 2).is(0);
            s.ask(key, 3).is(-1);
            s.element(key, 0).is(Probe.NONE);
        }
        s.command(0, Probe.BACK, 0, 9, 0).is(1);
        s.tick(50).is(0);
        s.holds(0, 9);
    }

    private static void waitingEnds() {
        Probe s = new Probe();
        s.listen(0, 0, 0, 3).is(Probe.NONE);
        s.listen(1, 0, 0, 5).is(Probe.NONE);
        s.listen(2, 0, 0, 0).is(Probe.NONE);
        s.tick(2).is(0);
        s.got(0, 0).is(Probe.WAITING);
        s.tick(1).is(0);
        s.got(0, 0).is(Probe.READY);
        s.got(1, 0).is(Probe.WAITING);
        s.tick(50).is(0);
        s.got(1, 0).is(Probe.READY);
        s.got(2, 0).is(Probe.WAITING);
        s.fill(0, 8);
        s.got(0, 1).is(Probe.NONE);
        s.got(2, 1).is(8);
        s.begin(3).is(true);
        s.tick(50).is(0);
        s.got(3, 0).is(Probe.GATHERING);
    }

    private static void outOfRange() {
        Probe s = new Probe();
        s.command(0, Probe.PUT, 0, 1, 0).is(0);
        s.command(0, Probe.EXPIRE, 0, 1, 0).is(1);
        s.listen(1, 1, 1, 1).is(Probe.NONE);
        int[] none = {-1, 51, Probe.LOW, Probe.HIGH};
        for (int n : none) {
            s.tick(n).is(-1);
        }
        s.ask(0, 3).is(1);
        s.got(1, 3).is(1);
        s.tick(50).is(1);
        s.got(1, 0).is(Probe.READY);
    }
}
