/** Promise 15, and of promise 18 what element answers for other kinds. */
public final class ElementTest {
    public static void main(String[] args) {
        Probe s = new Probe();
        s.fill(0, Probe.HIGH, -1, Probe.LOW);
        s.element(0, 0).is(Probe.HIGH);
        s.element(0, 1).is(-1);
        s.element(0, 2).is(Probe.LOW);
        s.element(0, 3).is(Probe.NONE);
        s.command(0, Probe.SCORE, 1, 9, 5).is(1);
        s.command(0, Probe.SCORE, 1, 3, 7).is(1);
        s.command(0, Probe.SCORE, 1, 2, 7).is(1);
        s.element(1, 0).is(9);
        s.element(1, 1).is(2);
        s.element(1, 2).is(3);
        s.element(1, 3).is(Probe.NONE);
        s.command(0, Probe.PUT, 2, 4, 0).is(0);
        s.element(2, 0).is(Probe.NONE);
        s.element(3, 0).is(Probe.NONE);
        int[] none = {-1, 12, Probe.LOW, Probe.HIGH};
        for (int i : none) {
            s.element(0, i).is(Probe.NONE);
            s.element(1, i).is(Probe.NONE);
            s.element(i, 0).is(Probe.NONE);
        }
        s.element(8, 0).is(Probe.NONE);
        theTwelfth();
        Probe.finish();
    }

    private static void theTwelfth() {
        Probe s = new Probe();
        for (int key = 6; key < 8; key++) {
            s.fill(key, 0, 1, 2, 3, 4, 5, 6, 7, 8, 9, 10, 11);
        }
        s.element(6, 11).is(11);
        s.element(6, 12).is(Probe.NONE);
        s.element(7, 11).is(11);
        s.element(7, 12).is(Probe.NONE);
    }
}
