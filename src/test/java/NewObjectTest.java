/** Promise 1: what a new object is. */
public final class NewObjectTest {
    public static void main(String[] args) {
        keysAreNothing();
        clientsAreReady();
        nothingIsWatched();
        objectsShareNothing();
        theTimeIsZero();
        Probe.finish();
    }

    private static void keysAreNothing() {
        Probe s = new Probe();
        for (int key = 0; key < 8; key++) {
            s.ask(key, 0).is(Probe.NOTHING);
            s.ask(key, 1).is(0);
            s.ask(key, 2).is(0);
            s.ask(key, 3).is(-1);
            s.element(key, 0).is(Probe.NONE);
            s.member(key, 0, 0).is(Probe.NONE);
            s.between(key, Probe.LOW, Probe.HIGH).is(0);
        }
    }

    private static void clientsAreReady() {
        Probe s = new Probe();
        for (int client = 0; client < 4; client++) {
            s.got(client, 0).is(Probe.READY);
            s.got(client, 1).is(Probe.NONE);
            s.got(client, 2).is(Probe.NONE);
            s.got(client, 3).is(Probe.NONE);
            s.result(client, 0).is(Probe.NONE);
        }
    }

    private static void nothingIsWatched() {
        Probe s = new Probe();
        for (int key = 0; key < 8; key++) {
            s.command(0, Probe.PUT, key, 1, 0).is(0);
        }
        for (int client = 0; client < 4; client++) {
            s.begin(client).is(true);
            s.commit(client).is(0);
        }
    }

    private static void objectsShareNothing() {
        Probe one = new Probe();
        Probe other = new Probe();
        one.command(0, Probe.PUT, 0, 1, 0).is(0);
        one.sync();
        one.begin(0).is(true);
        other.ask(0, 0).is(Probe.NOTHING);
        other.got(0, 0).is(Probe.READY);
        other.crash().is(0);
    }

    private static void theTimeIsZero() {
        Probe s = new Probe();
        s.command(0, Probe.PUT, 0, 1, 0).is(0);
        s.command(0, Probe.EXPIRE, 0, 1, 0).is(1);
        s.tick(0).is(0);
        s.tick(1).is(1);
    }
}
