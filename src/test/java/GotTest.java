/** Promise 9: got. */
public final class GotTest {
    public static void main(String[] args) {
        states();
        takenAtOnceOrLater();
        refusedAndWrongForgetNothing();
        timeLeft();
        noSuch();
        Probe.finish();
    }

    private static void states() {
        Probe s = new Probe();
        s.got(1, 0).is(Probe.READY);
        s.begin(1).is(true);
        s.got(1, 0).is(Probe.GATHERING);
        s.cancel(1).is(true);
        s.listen(1, 0, 0, 0).is(Probe.NONE);
        s.got(1, 0).is(Probe.WAITING);
        s.fill(0, 1);
        s.got(1, 0).is(Probe.READY);
    }

    private static void takenAtOnceOrLater() {
        Probe s = new Probe();
        s.fill(0, Probe.LOW);
        s.listen(1, 6, 0, 0).is(Probe.LOW);
        s.got(1, 1).is(Probe.LOW);
        s.got(1, 2).is(0);
        s.listen(1, 7, 0, 4).is(Probe.NONE);
        s.got(1, 1).is(Probe.NONE);
        s.got(1, 2).is(Probe.NONE);
        s.fill(7, Probe.HIGH);
        s.got(1, 1).is(Probe.HIGH);
        s.got(1, 2).is(7);
        s.listen(1, 7, 0, 4).is(Probe.NONE);
        s.tick(4).is(0);
        s.got(1, 0).is(Probe.READY);
        s.got(1, 1).is(Probe.NONE);
        s.got(1, 2).is(Probe.NONE);
        s.got(0, 1).is(Probe.NONE);
    }

    private static void refusedAndWrongForgetNothing() {
        Probe s = new Probe();
        s.fill(3, 33);
        s.listen(1, 3, 3, 0).is(33);
        s.listen(1, 3, 3, 51).is(Probe.REFUSED);
        s.command(0, Probe.PUT, 4, 1, 0).is(0);
        s.listen(1, 4, 3, 0).is(Probe.WRONG);
        s.begin(1).is(true);
        s.listen(1, 3, 3, 0).is(Probe.REFUSED);
        s.commit(1).is(0);
        s.got(1, 1).is(33);
        s.got(1, 2).is(3);
    }

    private static void timeLeft() {
        Probe s = new Probe();
        s.tick(10).is(0);
        s.got(1, 3).is(Probe.NONE);
        s.listen(1, 0, 0, 5).is(Probe.NONE);
        s.got(1, 3).is(5);
        s.tick(0).is(0);
        s.got(1, 3).is(5);
        s.tick(4).is(0);
        s.got(1, 3).is(1);
        s.fill(0, 1);
        s.got(1, 3).is(Probe.NONE);
        s.listen(1, 0, 0, 0).is(Probe.NONE);
        s.got(1, 3).is(Probe.NONE);
        s.begin(2).is(true);
        s.got(2, 3).is(Probe.NONE);
    }

    private static void noSuch() {
        Probe s = new Probe();
        int[] none = {-1, 4, Probe.LOW, Probe.HIGH};
        for (int i : none) {
            s.got(0, i).is(Probe.NONE);
            for (int what = 0; what < 4; what++) {
                s.got(i, what).is(Probe.NONE);
            }
        }
    }
}
