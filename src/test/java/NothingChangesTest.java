/** Calls that are refused, fail or only ask, each in a store where much is going on: all stays as it was. */
public final class NothingChangesTest {
    private static final int GATHERED = 3;

    private interface Call {
        Probe.Answer on(Probe s);
    }

    public static void main(String[] args) {
        refusedCommands();
        refusedCommandsOfTheWaiting();
        refusedCommandsOfTheGathering();
        fullQueue();
        wrongCommands();
        fullCommands();
        emptyCommands();
        commandsThatAnswerZero();
        refusedListens();
        wrongListens();
        falseBegins();
        commitsWithoutGathering();
        falseCancels();
        falseWatches();
        ticksOutOfRange();
        rewrites();
        asking();
        askingForWhatIsNotThere();
        Probe.finish();
    }

    private static void unchanged(long want, Call call) {
        Probe s = Scene.make(GATHERED);
        call.on(s).is(want);
        Scene.same(s, GATHERED);
    }

    private static void command(long want, int client, int op, int key, int a) {
        unchanged(want, s -> s.command(client, op, key, a, 5));
    }

    /** Promise 2: "REFUSED, and nothing changes, if ... there is no such client, op, key, member ..." */
    private static void refusedCommands() {
        for (int client : Probe.outside(4)) {
            command(Probe.REFUSED, client, Probe.PUT, 0, 1);
        }
        for (int op : Probe.outside(12)) {
            command(Probe.REFUSED, 0, op, 0, 1);
        }
        for (int key : Probe.outside(8)) {
            command(Probe.REFUSED, 0, Probe.PUT, key, 1);
            command(Probe.REFUSED, 0, Probe.RENAME, 0, key);
        }
        for (int m : Probe.outside(16)) {
            command(Probe.REFUSED, 0, Probe.SCORE, 6, m);
            command(Probe.REFUSED, 0, Probe.RAISE, 6, m);
            command(Probe.REFUSED, 0, Probe.STRIKE, 6, m);
        }
        for (int a : Probe.outside(101)) {
            command(Probe.REFUSED, 0, Probe.EXPIRE, 0, a);
        }
        command(Probe.REFUSED, 0, Probe.RENAME, 0, 0);
    }

    /** Promise 2: "if it is WAITING" */
    private static void refusedCommandsOfTheWaiting() {
        for (int key = 0; key < 8; key++) {
            command(Probe.REFUSED, 2, Probe.PUT, key, 1);
            command(Probe.REFUSED, 2, Probe.DROP, key, 1);
        }
        command(Probe.REFUSED, 2, Probe.BACK, 4, 1);
    }

    private static void refusedCommandsOfTheGathering() {
        command(Probe.REFUSED, 1, 12, 0, 1);
        command(Probe.REFUSED, 1, Probe.PUT, 8, 1);
        command(Probe.REFUSED, 1, Probe.SCORE, 6, 16);
        command(Probe.REFUSED, 1, Probe.EXPIRE, 0, 101);
        command(Probe.REFUSED, 1, Probe.RENAME, 0, 0);
    }

    /** Promise 2: "FULL if 8 are" */
    private static void fullQueue() {
        Probe s = Scene.make(8);
        s.command(1, Probe.BACK, 4, 1, 0).is(Probe.FULL);
        Scene.same(s, 8);
    }

    /** Terms: "WRONG (and change nothing)" */
    private static void wrongCommands() {
        for (int op = Probe.FRONT; op <= Probe.LEAST; op++) {
            command(Probe.WRONG, 0, op, 0, 1);
        }
        for (int op = Probe.SCORE; op <= Probe.LEAST; op++) {
            command(Probe.WRONG, 0, op, 3, 1);
        }
        for (int op = Probe.FRONT; op <= Probe.TAKE; op++) {
            command(Probe.WRONG, 0, op, 6, 1);
        }
        command(Probe.WRONG, 0, Probe.ADD, 3, 1);
        command(Probe.WRONG, 0, Probe.ADD, 6, 1);
    }

    /** Terms: "FULL with 12", "FULL if it is new with 12", "FULL likewise" */
    private static void fullCommands() {
        command(Probe.FULL, 0, Probe.FRONT, 1, 1);
        command(Probe.FULL, 0, Probe.BACK, 1, 1);
        command(Probe.FULL, 0, Probe.SCORE, 2, 12);
        command(Probe.FULL, 0, Probe.RAISE, 2, 15);
    }

    /** Terms: "EMPTY if NOTHING" */
    private static void emptyCommands() {
        command(Probe.EMPTY, 0, Probe.TAKE, 7, 0);
        command(Probe.EMPTY, 0, Probe.TAKE, 7, 1);
        command(Probe.EMPTY, 0, Probe.LEAST, 7, 0);
    }

    /** Terms: DROP "0 if it was", EXPIRE, RENAME "0 if it is NOTHING", STRIKE "0 if it was none", SCORE "else 0" */
    private static void commandsThatAnswerZero() {
        command(0, 0, Probe.DROP, 7, 0);
        command(0, 0, Probe.EXPIRE, 7, 5);
        command(0, 0, Probe.RENAME, 7, 3);
        command(0, 0, Probe.STRIKE, 7, 5);
        command(0, 0, Probe.STRIKE, 6, 5);
        command(0, 0, Probe.SCORE, 2, 5);
    }

    /** Promise 3: "REFUSED if it is not READY, or one is not there or out of range." */
    private static void refusedListens() {
        for (int client : Probe.outside(4)) {
            unchanged(Probe.REFUSED, s -> s.listen(client, 3, 3, 0));
        }
        for (int key : Probe.outside(8)) {
            unchanged(Probe.REFUSED, s -> s.listen(0, key, 3, 0));
            unchanged(Probe.REFUSED, s -> s.listen(0, 3, key, 0));
        }
        for (int limit : Probe.outside(51)) {
            unchanged(Probe.REFUSED, s -> s.listen(0, 3, 3, limit));
            unchanged(Probe.REFUSED, s -> s.listen(0, 7, 7, limit));
        }
        for (int client = 1; client <= 2; client++) {
            int notReady = client;
            unchanged(Probe.REFUSED, s -> s.listen(notReady, 3, 3, 0));
            unchanged(Probe.REFUSED, s -> s.listen(notReady, 7, 7, 9));
        }
    }

    /** Promise 3: "WRONG if one of both is a number or ranking." */
    private static void wrongListens() {
        int[] numberAndRanking = {0, 6};
        for (int key : numberAndRanking) {
            unchanged(Probe.WRONG, s -> s.listen(3, key, 7, 0));
            unchanged(Probe.WRONG, s -> s.listen(3, 7, key, 9));
            unchanged(Probe.WRONG, s -> s.listen(3, key, 3, 0));
            unchanged(Probe.WRONG, s -> s.listen(3, 3, key, 0));
        }
    }

    private static int[] noClientAnd(int first, int second) {
        return new int[] {-1, 4, Probe.LOW, Probe.HIGH, first, second};
    }

    /** Promise 4: "false otherwise" */
    private static void falseBegins() {
        for (int client : noClientAnd(1, 2)) {
            unchanged(0, s -> s.begin(client));
        }
    }

    /** Promise 5: "-1 if it is not GATHERING" */
    private static void commitsWithoutGathering() {
        for (int client : noClientAnd(0, 2)) {
            unchanged(-1, s -> s.commit(client));
        }
        unchanged(-1, s -> s.commit(3));
    }

    /** Promise 6: "false otherwise" */
    private static void falseCancels() {
        for (int client : noClientAnd(2, 2)) {
            unchanged(0, s -> s.cancel(client));
        }
    }

    /** Promise 7: "false if it is not READY, or there is no such key" */
    private static void falseWatches() {
        for (int client : noClientAnd(1, 2)) {
            unchanged(0, s -> s.watch(client, 6));
        }
        for (int key : Probe.outside(8)) {
            unchanged(0, s -> s.watch(0, key));
        }
    }

    /** Promise 10: "-1, and nothing changes, if n is not 0..50" */
    private static void ticksOutOfRange() {
        for (int n : Probe.outside(51)) {
            unchanged(-1, s -> s.tick(n));
        }
    }

    /** Promise 13: "no answer depends on it" */
    private static void rewrites() {
        Probe s = Scene.make(GATHERED);
        s.rewrite();
        s.rewrite();
        Scene.same(s, GATHERED);
    }

    private static void asking() {
        for (int key = 0; key < 8; key++) {
            int k = key;
            unchanged(k == 2 ? 12 : k == 6 ? 1 : 0, s -> s.between(k, 0, 61));
        }
        unchanged(8, s -> s.ask(0, 1));
        unchanged(31, s -> s.element(3, 0));
        unchanged(61, s -> s.member(6, 6, 0));
        unchanged(30, s -> s.got(3, 1));
        unchanged(8, s -> s.result(3, 0));
    }

    private static void askingForWhatIsNotThere() {
        for (int none : Probe.outside(16)) {
            unchanged(-1, s -> s.ask(none, 0));
            unchanged(-1, s -> s.ask(0, none));
            unchanged(Probe.NONE, s -> s.element(none, 0));
            unchanged(Probe.NONE, s -> s.element(3, none));
            unchanged(Probe.NONE, s -> s.member(none, 6, 0));
            unchanged(Probe.NONE, s -> s.member(6, none, 0));
            unchanged(Probe.NONE, s -> s.got(none, 0));
            unchanged(Probe.NONE, s -> s.got(0, none));
            unchanged(Probe.NONE, s -> s.result(none, 0));
            unchanged(Probe.NONE, s -> s.result(3, none));
            unchanged(0, s -> s.between(none, Probe.LOW, Probe.HIGH));
        }
    }
}
