/** Promise 1: what a new object is. */
public final class NewObjectTest {
    public static void main(String[] args) {
        keysAreNothing();
        clientsAreReady();
        clientsHaveNoResultsAndTookNothing();
        nothingIsWatched();
        nothingIsSafe();
        objectsShareNothing();
        Probe.finish();
    }

    /** "Keys all NOTHING" */
    private static void keysAreNothing() {
        Probe s = new Probe();
        for (int key = 0; key < 8; key++) {
            s.isNothing(key);
            s.member(key, 0, 0).is(Probe.NONE);
            s.between(key, Probe.LOW, Probe.HIGH).is(0);
        }
    }

    /** "clients all READY" */
    private static void clientsAreReady() {
        Probe s = new Probe();
        for (int client = 0; client < 4; client++) {
            s.got(client, 0).is(Probe.READY);
            s.got(client, 3).is(Probe.NONE);
            s.commit(client).is(-1);
            s.begin(client).is(true);
            s.commit(client).is(0);
        }
    }

    private static void clientsHaveNoResultsAndTookNothing() {
        Probe s = new Probe();
        for (int client = 0; client < 4; client++) {
            s.got(client, 1).is(Probe.NONE);
            s.got(client, 2).is(Probe.NONE);
            s.result(client, 0).is(Probe.NONE);
        }
    }

    /** "nothing watched" */
    private static void nothingIsWatched() {
        Probe s = new Probe();
        for (int key = 0; key < 8; key++) {
            s.put(key, 1).is(0);
        }
        for (int client = 0; client < 4; client++) {
            s.deceived(client, false);
        }
    }

    private static void nothingIsSafe() {
        Probe s = new Probe();
        s.crash().is(0);
        for (int key = 0; key < 8; key++) {
            s.isNothing(key);
        }
    }

    private static void objectsShareNothing() {
        Probe one = new Probe();
        Probe other = new Probe();
        one.put(0, 1).is(0);
        one.sync();
        one.tick(9).is(0);
        one.begin(0).is(true);
        other.ask(0, 0).is(Probe.NOTHING);
        other.got(0, 0).is(Probe.READY);
        other.crash().is(0);
        one.ask(0, 1).is(1);
        one.got(0, 0).is(Probe.GATHERING);
        new Probe().ask(0, 0).is(Probe.NOTHING);
    }
}
