/** Promise 14: ask. */
public final class AskTest {
    public static void main(String[] args) {
        everyKind();
        timeLeft();
        noSuch();
        Probe.finish();
    }

    private static void is(Probe s, int key, int kind, int number, int size) {
        s.ask(key, 0).is(kind);
        s.ask(key, 1).is(number);
        s.ask(key, 2).is(size);
        s.ask(key, 3).is(-1);
    }

    private static void everyKind() {
        Probe s = new Probe();
        s.command(0, Probe.PUT, 1, -1, 0).is(0);
        s.fill(2, 20, 21, 22);
        s.command(0, Probe.SCORE, 3, 3, 30).is(1);
        s.command(0, Probe.SCORE, 3, 4, 40).is(1);
        is(s, 0, Probe.NOTHING, 0, 0);
        is(s, 1, Probe.NUMBER, -1, 0);
        is(s, 2, Probe.LIST, 0, 3);
        is(s, 3, Probe.RANKING, 0, 2);
        s.command(0, Probe.DROP, 1, 0, 0).is(1);
        s.fill(1, 5);
        is(s, 1, Probe.LIST, 0, 1);
        s.command(0, Probe.PUT, 2, 9, 0).is(0);
        is(s, 2, Probe.NUMBER, 9, 0);
    }

    private static void timeLeft() {
        Probe s = new Probe();
        s.tick(20).is(0);
        s.fill(7, 1);
        s.command(0, Probe.EXPIRE, 7, 30, 0).is(1);
        s.ask(7, 3).is(30);
        s.tick(29).is(0);
        s.ask(7, 3).is(1);
        s.tick(1).is(1);
        s.ask(7, 3).is(-1);
    }

    private static void noSuch() {
        Probe s = new Probe();
        s.command(0, Probe.PUT, 0, 5, 0).is(0);
        int[] none = {-1, 8, Probe.LOW, Probe.HIGH};
        for (int i : none) {
            for (int what = 0; what < 4; what++) {
                s.ask(i, what).is(-1);
            }
            s.ask(0, i).is(-1);
        }
        s.ask(0, 4).is(-1);
    }
}
