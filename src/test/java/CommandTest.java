/** Promise 2: command, and the commands of the terms. */
public final class CommandTest {
    public static void main(String[] args) {
        numbers();
        dropping();
        expiring();
        lists();
        fullLists();
        rankings();
        fullRankings();
        aScoreKeepsTheDeadline();
        striking();
        least();
        renaming();
        wrongKinds();
        emptiedKeysLoseTheirDeadline();
        refusedArguments();
        refusedClients();
        gathering();
        Probe.finish();
    }

    private static void numbers() {
        Probe s = new Probe();
        s.command(0, Probe.PUT, 0, -7, 99).is(0);
        s.ask(0, 1).is(-7);
        s.command(1, Probe.ADD, 0, 10, 99).is(3);
        s.command(1, Probe.ADD, 7, 0, 0).is(0);
        s.ask(7, 0).is(Probe.NUMBER);
        s.command(2, Probe.ADD, 0, Probe.HIGH, 0).is(Probe.LOW + 2);
        s.command(2, Probe.ADD, 0, Probe.LOW, 0).is(2);
        s.command(3, Probe.EXPIRE, 0, 9, 0).is(1);
        s.command(3, Probe.ADD, 0, 1, 0).is(3);
        s.ask(0, 3).is(9);
        s.command(3, Probe.PUT, 0, 4, 0).is(0);
        s.ask(0, 3).is(-1);
        s.command(3, Probe.DROP, 0, 0, 0).is(1);
        s.command(3, Probe.ADD, 0, 5, 0).is(5);
    }

    private static void dropping() {
        Probe s = new Probe();
        s.command(0, Probe.DROP, 3, 0, 0).is(0);
        s.fill(3, 1, 2);
        s.command(0, Probe.EXPIRE, 3, 5, 0).is(1);
        s.command(0, Probe.DROP, 3, 0, 0).is(1);
        s.ask(3, 0).is(Probe.NOTHING);
        s.ask(3, 3).is(-1);
        s.holds(3);
        s.command(0, Probe.DROP, 3, 0, 0).is(0);
        s.fill(3, 9);
        s.holds(3, 9);
        s.ask(3, 3).is(-1);
        s.tick(5).is(0);
    }

    private static void expiring() {
        Probe s = new Probe();
        s.command(0, Probe.EXPIRE, 1, 5, 0).is(0);
        s.command(0, Probe.EXPIRE, 1, 0, 0).is(0);
        s.command(0, Probe.PUT, 1, 5, 0).is(0);
        s.command(0, Probe.EXPIRE, 1, 100, 0).is(1);
        s.ask(1, 3).is(100);
        s.tick(50).is(0);
        s.ask(1, 3).is(50);
        s.command(0, Probe.EXPIRE, 1, 1, 0).is(1);
        s.ask(1, 3).is(1);
        s.command(0, Probe.EXPIRE, 1, 0, 0).is(1);
        s.ask(1, 3).is(-1);
        s.tick(1).is(0);
        s.ask(1, 0).is(Probe.NUMBER);
    }

    private static void lists() {
        Probe s = new Probe();
        s.command(0, Probe.FRONT, 2, 5, 0).is(1);
        s.command(0, Probe.FRONT, 2, Probe.LOW, 0).is(2);
        s.command(0, Probe.BACK, 2, Probe.HIGH, 0).is(3);
        s.command(0, Probe.BACK, 2, 5, 0).is(4);
        s.ask(2, 0).is(Probe.LIST);
        s.holds(2, Probe.LOW, 5, Probe.HIGH, 5);
        s.command(0, Probe.TAKE, 2, 0, 0).is(Probe.LOW);
        s.command(0, Probe.TAKE, 2, -1, 0).is(5);
        s.command(0, Probe.TAKE, 2, 1, 0).is(Probe.HIGH);
        s.holds(2, 5);
        s.command(0, Probe.TAKE, 2, 0, 1).is(5);
        s.ask(2, 0).is(Probe.NOTHING);
        s.command(0, Probe.TAKE, 2, 0, 0).is(Probe.EMPTY);
        s.command(0, Probe.TAKE, 2, 1, 0).is(Probe.EMPTY);
        s.command(0, Probe.PUT, 2, 1, 0).is(0);
    }

    private static void fullLists() {
        Probe s = new Probe();
        s.fill(7, 0, 1, 2, 3, 4, 5, 6, 7, 8, 9, 10);
        s.command(0, Probe.FRONT, 7, -1, 0).is(12);
        s.command(0, Probe.FRONT, 7, 50, 0).is(Probe.FULL);
        s.command(0, Probe.BACK, 7, 50, 0).is(Probe.FULL);
        s.holds(7, -1, 0, 1, 2, 3, 4, 5, 6, 7, 8, 9, 10);
        s.command(0, Probe.TAKE, 7, 0, 0).is(-1);
        s.command(0, Probe.BACK, 7, 11, 0).is(12);
        s.holds(7, 0, 1, 2, 3, 4, 5, 6, 7, 8, 9, 10, 11);
    }

    private static void rankings() {
        Probe s = new Probe();
        s.command(0, Probe.SCORE, 4, 15, 0).is(1);
        s.command(0, Probe.SCORE, 4, 0, 0).is(1);
        s.command(0, Probe.SCORE, 4, 7, -1).is(1);
        s.command(0, Probe.SCORE, 4, 8, 1).is(1);
        s.holds(4, 7, 0, 15, 8);
        s.ask(4, 0).is(Probe.RANKING);
        s.command(0, Probe.SCORE, 4, 7, 0).is(0);
        s.holds(4, 0, 7, 15, 8);
        s.command(0, Probe.SCORE, 4, 8, Probe.LOW).is(0);
        s.command(0, Probe.SCORE, 4, 0, Probe.HIGH).is(0);
        s.holds(4, 8, 7, 15, 0);
        s.command(0, Probe.RAISE, 4, 0, 1).is(Probe.LOW);
        s.holds(4, 0, 8, 7, 15);
        s.command(0, Probe.RAISE, 4, 3, -5).is(-5);
        s.command(0, Probe.RAISE, 4, 3, 0).is(-5);
        s.command(0, Probe.RAISE, 4, 3, 8).is(3);
        s.holds(4, 0, 8, 7, 15, 3);
        s.member(4, 3, 0).is(3);
        s.member(4, 8, 0).is(Probe.LOW);
    }

    private static void fullRankings() {
        Probe s = new Probe();
        for (int m = 0; m < 12; m++) {
            s.command(0, Probe.RAISE, 4, m, -m).is(-m);
        }
        s.command(0, Probe.SCORE, 4, 12, 0).is(Probe.FULL);
        s.command(0, Probe.RAISE, 4, 15, 0).is(Probe.FULL);
        s.holds(4, 11, 10, 9, 8, 7, 6, 5, 4, 3, 2, 1, 0);
        s.command(0, Probe.SCORE, 4, 11, 3).is(0);
        s.command(0, Probe.RAISE, 4, 0, -100).is(-100);
        s.holds(4, 0, 10, 9, 8, 7, 6, 5, 4, 3, 2, 1, 11);
        s.command(0, Probe.STRIKE, 4, 5, 0).is(1);
        s.command(0, Probe.SCORE, 4, 15, -5).is(1);
        s.holds(4, 0, 10, 9, 8, 7, 6, 15, 4, 3, 2, 1, 11);
        s.command(0, Probe.RAISE, 4, 0, 200).is(100);
        s.command(0, Probe.SCORE, 4, 10, 100).is(0);
        s.holds(4, 9, 8, 7, 6, 15, 4, 3, 2, 1, 11, 0, 10);
    }

    private static void aScoreKeepsTheDeadline() {
        Probe s = new Probe();
        s.command(0, Probe.SCORE, 4, 1, 5).is(1);
        s.command(0, Probe.EXPIRE, 4, 7, 0).is(1);
        s.command(0, Probe.SCORE, 4, 1, 6).is(0);
        s.ask(4, 3).is(7);
        s.command(0, Probe.RAISE, 4, 1, 6).is(12);
        s.ask(4, 3).is(7);
        s.command(0, Probe.SCORE, 4, 2, 6).is(1);
        s.ask(4, 3).is(7);
    }

    private static void striking() {
        Probe s = new Probe();
        s.command(0, Probe.STRIKE, 5, 3, 0).is(0);
        s.command(0, Probe.SCORE, 5, 3, 1).is(1);
        s.command(0, Probe.SCORE, 5, 4, 1).is(1);
        s.command(0, Probe.STRIKE, 5, 5, 0).is(0);
        s.command(0, Probe.STRIKE, 5, 3, 0).is(1);
        s.holds(5, 4);
        s.command(0, Probe.STRIKE, 5, 4, 0).is(1);
        s.ask(5, 0).is(Probe.NOTHING);
    }

    private static void least() {
        Probe s = new Probe();
        s.command(0, Probe.LEAST, 5, 0, 0).is(Probe.EMPTY);
        s.command(0, Probe.SCORE, 5, 3, 1).is(1);
        s.command(0, Probe.SCORE, 5, 9, -1).is(1);
        s.command(0, Probe.SCORE, 5, 2, 1).is(1);
        s.command(0, Probe.LEAST, 5, 99, 0).is(9);
        s.command(0, Probe.LEAST, 5, -1, 0).is(2);
        s.command(0, Probe.LEAST, 5, 1, 0).is(3);
        s.ask(5, 0).is(Probe.NOTHING);
        s.command(0, Probe.LEAST, 5, 0, 0).is(Probe.EMPTY);
    }

    private static void renaming() {
        Probe s = new Probe();
        s.command(0, Probe.RENAME, 0, 7, 0).is(0);
        s.fill(0, 4, 5);
        s.command(0, Probe.PUT, 7, 8, 0).is(0);
        s.command(0, Probe.EXPIRE, 7, 9, 0).is(1);
        s.command(0, Probe.RENAME, 1, 7, 0).is(0);
        s.ask(7, 1).is(8);
        s.command(0, Probe.RENAME, 0, 7, 0).is(1);
        s.ask(0, 0).is(Probe.NOTHING);
        s.holds(7, 4, 5);
        s.ask(7, 1).is(0);
        s.ask(7, 3).is(-1);
        s.command(0, Probe.EXPIRE, 7, 9, 0).is(1);
        s.tick(2).is(0);
        s.command(0, Probe.RENAME, 7, 3, 0).is(1);
        s.ask(3, 3).is(7);
        s.ask(7, 3).is(-1);
        s.command(0, Probe.SCORE, 2, 6, 60).is(1);
        s.command(0, Probe.RENAME, 2, 3, 0).is(1);
        s.member(3, 6, 0).is(60);
        s.ask(3, 3).is(-1);
        s.ask(2, 2).is(0);
    }

    private static void wrongKinds() {
        Probe s = new Probe();
        s.command(0, Probe.PUT, 1, 1, 0).is(0);
        s.fill(2, 2);
        s.command(0, Probe.SCORE, 3, 3, 3).is(1);
        for (int op = 0; op < 12; op++) {
            boolean forAll = op <= 0 || op == 2 || op == 3 || op == 11;
            for (int key = 1; key <= 3 && !forAll; key++) {
                int kind = op == 1 ? 1 : op <= 6 ? 2 : 3;
                if (key != kind) {
                    s.command(0, op, key, 3, 5).is(Probe.WRONG);
                }
            }
        }
        s.ask(1, 1).is(1);
        s.holds(2, 2);
        s.holds(3, 3);
        s.member(3, 3, 0).is(3);
        for (int key = 1; key <= 3; key++) {
            s.command(0, Probe.EXPIRE, key, 3, 0).is(1);
            s.command(0, Probe.RENAME, key, key + 3, 0).is(1);
            s.command(0, Probe.PUT, key + 3, 6, 0).is(0);
            s.ask(key + 3, 1).is(6);
            s.ask(key + 3, 2).is(0);
            s.command(0, Probe.DROP, key + 3, 0, 0).is(1);
        }
    }

    private static void emptiedKeysLoseTheirDeadline() {
        Probe s = new Probe();
        s.fill(0, 1);
        s.command(0, Probe.EXPIRE, 0, 5, 0).is(1);
        s.command(0, Probe.TAKE, 0, 1, 0).is(1);
        s.ask(0, 3).is(-1);
        s.fill(0, 2);
        s.ask(0, 3).is(-1);
        s.command(0, Probe.SCORE, 1, 1, 1).is(1);
        s.command(0, Probe.EXPIRE, 1, 5, 0).is(1);
        s.command(0, Probe.LEAST, 1, 0, 0).is(1);
        s.command(0, Probe.ADD, 1, 1, 0).is(1);
        s.ask(1, 3).is(-1);
        s.command(0, Probe.SCORE, 2, 1, 1).is(1);
        s.command(0, Probe.EXPIRE, 2, 5, 0).is(1);
        s.command(0, Probe.STRIKE, 2, 1, 0).is(1);
        s.command(0, Probe.RAISE, 2, 1, 1).is(1);
        s.ask(2, 3).is(-1);
        s.tick(5).is(0);
    }

    private static void refusedArguments() {
        Probe s = new Probe();
        int[] noKeys = {-1, 8, Probe.LOW, Probe.HIGH};
        for (int key : noKeys) {
            for (int op = 0; op < 12; op++) {
                s.command(0, op, key, 1, 1).is(Probe.REFUSED);
            }
            s.command(0, Probe.RENAME, 0, key, 0).is(Probe.REFUSED);
        }
        int[] noOps = {-1, 12, Probe.LOW, Probe.HIGH};
        for (int op : noOps) {
            s.command(0, op, 0, 1, 1).is(Probe.REFUSED);
        }
        int[] noMembers = {-1, 16, Probe.LOW, Probe.HIGH};
        for (int m : noMembers) {
            s.command(0, Probe.SCORE, 0, m, 1).is(Probe.REFUSED);
            s.command(0, Probe.RAISE, 0, m, 1).is(Probe.REFUSED);
            s.command(0, Probe.STRIKE, 0, m, 1).is(Probe.REFUSED);
        }
        s.command(0, Probe.EXPIRE, 0, -1, 0).is(Probe.REFUSED);
        s.command(0, Probe.EXPIRE, 0, 101, 0).is(Probe.REFUSED);
        s.command(0, Probe.RENAME, 0, 0, 0).is(Probe.REFUSED);
        s.ask(0, 0).is(Probe.NOTHING);
    }

    private static void refusedClients() {
        Probe s = new Probe();
        int[] noClients = {-1, 4, Probe.LOW, Probe.HIGH};
        for (int client : noClients) {
            s.command(client, Probe.PUT, 0, 1, 0).is(Probe.REFUSED);
        }
        s.listen(1, 0, 0, 0).is(Probe.NONE);
        s.command(1, Probe.PUT, 0, 1, 0).is(Probe.REFUSED);
        s.command(1, Probe.BACK, 0, 1, 0).is(Probe.REFUSED);
        s.ask(0, 0).is(Probe.NOTHING);
        s.got(1, 0).is(Probe.WAITING);
    }

    private static void gathering() {
        Probe s = new Probe();
        s.begin(1).is(true);
        for (int i = 0; i < 8; i++) {
            s.command(1, Probe.BACK, 0, i, 0).is(Probe.QUEUED);
        }
        s.command(1, Probe.BACK, 0, 8, 0).is(Probe.FULL);
        s.command(1, Probe.BACK, 8, 8, 0).is(Probe.REFUSED);
        s.ask(0, 0).is(Probe.NOTHING);
        s.command(0, Probe.PUT, 1, 1, 0).is(0);
        s.begin(2).is(true);
        s.command(2, Probe.BACK, 1, 1, 0).is(Probe.QUEUED);
        s.commit(1).is(8);
        s.holds(0, 0, 1, 2, 3, 4, 5, 6, 7);
        s.begin(1).is(true);
        s.command(1, Probe.BACK, 0, 8, 0).is(Probe.QUEUED);
        s.commit(1).is(1);
        s.commit(2).is(1);
        s.result(2, 0).is(Probe.WRONG);
    }
}
