/** Promise 17, and of promise 18 what between answers for other kinds. */
public final class BetweenTest {
    public static void main(String[] args) {
        Probe s = new Probe();
        s.command(0, Probe.SCORE, 1, 15, Probe.LOW).is(1);
        s.command(0, Probe.SCORE, 1, 0, Probe.HIGH).is(1);
        s.command(0, Probe.SCORE, 1, 8, 4).is(1);
        s.command(0, Probe.SCORE, 1, 7, 4).is(1);
        s.command(0, Probe.SCORE, 1, 6, -4).is(1);
        s.between(1, Probe.LOW, Probe.HIGH).is(5);
        s.between(1, Probe.LOW + 1, Probe.HIGH).is(4);
        s.between(1, Probe.LOW, Probe.HIGH - 1).is(4);
        s.between(1, 4, 4).is(2);
        s.between(1, -4, 4).is(3);
        s.between(1, -3, 3).is(0);
        s.between(1, 5, -5).is(0);
        s.between(1, Probe.HIGH, Probe.LOW).is(0);
        s.command(0, Probe.STRIKE, 1, 8, 0).is(1);
        s.between(1, 4, 4).is(1);
        s.fill(0, 1, 2, 3);
        s.command(0, Probe.PUT, 2, 0, 0).is(0);
        int[] others = {0, 2, 3, -1, 8, Probe.LOW, Probe.HIGH};
        for (int key : others) {
            s.between(key, Probe.LOW, Probe.HIGH).is(0);
        }
        Probe.finish();
    }
}
