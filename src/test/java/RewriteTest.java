/** Promise 13: rewrite. That it changes nothing that is going on is tested in NothingChangesTest, too. */
public final class RewriteTest {
    public static void main(String[] args) {
        isNoSync();
        keepsWhatIsSafe();
        keepsDeadlinesThatAreSafe();
        bringsNothingBack();
        touchesNoClient();
        often();
        Probe.finish();
    }

    /** "no answer depends on it": what crash answers, neither. */
    private static void isNoSync() {
        Probe s = new Probe();
        s.put(0, 1).is(0);
        s.rewrite();
        s.isNumber(0, 1);
        s.crash().is(0);
        s.isNothing(0);
    }

    private static void keepsWhatIsSafe() {
        Probe s = new Probe();
        s.fill(0, 1, 2);
        s.sync();
        s.drop(0).is(1);
        s.put(1, 1).is(0);
        s.rewrite();
        s.isNothing(0);
        s.isNumber(1, 1);
        s.crash().is(1);
        s.isList(0, 1, 2);
        s.isNothing(1);
        s.rewrite();
        s.crash().is(1);
        s.isList(0, 1, 2);
    }

    private static void keepsDeadlinesThatAreSafe() {
        Probe s = new Probe();
        s.put(0, 1).is(0);
        s.expire(0, 20).is(1);
        s.sync();
        s.expire(0, 0).is(1);
        s.tick(5).is(0);
        s.rewrite();
        s.ask(0, 3).is(-1);
        s.crash().is(1);
        s.ask(0, 3).is(15);
    }

    private static void bringsNothingBack() {
        Probe s = new Probe();
        s.put(0, 1).is(0);
        s.expire(0, 5).is(1);
        s.sync();
        s.tick(5).is(1);
        s.rewrite();
        s.isNothing(0);
        s.crash().is(0);
        s.isNothing(0);
    }

    private static void touchesNoClient() {
        Probe s = new Probe();
        s.put(0, 1).is(0);
        s.watch(2, 0).is(true);
        s.listen(1, 1, 1, 5).is(Probe.NONE);
        s.begin(0).is(true);
        s.command(0, Probe.ADD, 4, 4, 0).is(Probe.QUEUED);
        s.rewrite();
        s.deceived(2, false);
        s.got(1, 3).is(5);
        s.commit(0).is(1);
        s.rewrite();
        s.result(0, 0).is(4);
        s.fill(1, 6);
        s.rewrite();
        s.got(1, 1).is(6);
    }

    private static void often() {
        Probe s = new Probe();
        s.put(0, 1).is(0);
        s.sync();
        for (int i = 0; i < 100; i++) {
            s.add(0, 1).is(i + 2);
            s.rewrite();
        }
        s.crash().is(1);
        s.isNumber(0, 1);
    }
}
