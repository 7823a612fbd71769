/** Promise 16: member. */
public final class MemberTest {
    public static void main(String[] args) {
        Probe s = new Probe();
        s.command(0, Probe.SCORE, 1, 15, Probe.LOW).is(1);
        s.command(0, Probe.SCORE, 1, 0, Probe.HIGH).is(1);
        s.command(0, Probe.SCORE, 1, 8, 4).is(1);
        s.command(0, Probe.SCORE, 1, 7, 4).is(1);
        is(s, 15, Probe.LOW, 0);
        is(s, 7, 4, 1);
        is(s, 8, 4, 2);
        is(s, 0, Probe.HIGH, 3);
        is(s, 1, Probe.NONE, Probe.NONE);
        s.command(0, Probe.STRIKE, 1, 7, 0).is(1);
        is(s, 7, Probe.NONE, Probe.NONE);
        is(s, 8, 4, 1);
        s.command(0, Probe.RAISE, 1, 15, -1).is(Probe.HIGH);
        is(s, 8, 4, 0);
        is(s, 0, Probe.HIGH, 1);
        is(s, 15, Probe.HIGH, 2);
        int[] none = {-1, 16, Probe.LOW, Probe.HIGH};
        for (int i : none) {
            is(s, i, Probe.NONE, Probe.NONE);
            s.member(i, 8, 0).is(Probe.NONE);
            s.member(i, 8, 1).is(Probe.NONE);
            s.member(1, 8, i).is(Probe.NONE);
        }
        s.member(8, 8, 0).is(Probe.NONE);
        s.member(1, 8, 2).is(Probe.NONE);
        otherKinds();
        Probe.finish();
    }

    private static void is(Probe s, int m, long score, long before) {
        s.member(1, m, 0).is(score);
        s.member(1, m, 1).is(before);
    }

    private static void otherKinds() {
        Probe s = new Probe();
        s.fill(0, 0, 5);
        s.command(0, Probe.PUT, 1, 5, 0).is(0);
        for (int key = 0; key < 3; key++) {
            for (int what = 0; what < 2; what++) {
                s.member(key, 0, what).is(Probe.NONE);
                s.member(key, 5, what).is(Probe.NONE);
            }
        }
    }
}
