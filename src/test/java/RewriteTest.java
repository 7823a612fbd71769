/** Promise 13: rewrite changes no answer. */
public final class RewriteTest {
    public static void main(String[] args) {
        isNoSync();
        keepsWhatIsSafe();
        touchesNoClient();
        Probe.finish();
    }

    private static void isNoSync() {
        Probe s = new Probe();
        s.command(0, Probe.PUT, 0, 1, 0).is(0);
        s.rewrite();
        s.ask(0, 1).is(1);
        s.crash().is(0);
    }

    private static void keepsWhatIsSafe() {
        Probe s = new Probe();
        s.fill(0, 1, 2);
        s.command(0, Probe.EXPIRE, 0, 20, 0).is(1);
        s.command(0, Probe.PUT, 1, 1, 0).is(0);
        s.command(0, Probe.EXPIRE, 1, 5, 0).is(1);
        s.sync();
        s.command(0, Probe.DROP, 0, 0, 0).is(1);
        s.tick(5).is(1);
        s.rewrite();
        s.rewrite();
        s.ask(0, 0).is(Probe.NOTHING);
        s.crash().is(1);
        s.holds(0, 1, 2);
        s.ask(0, 3).is(15);
        s.rewrite();
        s.crash().is(1);
    }

    private static void touchesNoClient() {
        Probe s = new Probe();
        s.command(0, Probe.PUT, 0, 1, 0).is(0);
        s.watch(2, 0).is(true);
        s.listen(1, 1, 1, 5).is(Probe.NONE);
        s.begin(3).is(true);
        s.command(3, Probe.ADD, 4, 4, 0).is(Probe.QUEUED);
        s.rewrite();
        s.deceived(false);
        s.got(1, 3).is(5);
        s.commit(3).is(1);
        s.rewrite();
        s.result(3, 0).is(4);
        s.fill(1, 6);
        s.rewrite();
        s.got(1, 1).is(6);
    }
}
