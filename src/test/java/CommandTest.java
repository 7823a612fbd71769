/** Promise 2: command. The commands themselves are tested where the terms name them. */
public final class CommandTest {
    public static void main(String[] args) {
        readyDoesItAtOnce();
        gatheringQueues();
        gatheringQueuesEight();
        gatheringIsFullWithEight();
        everyClientHasRoomForEight();
        thereIsRoomAgainAfterTheEnd();
        queuedCommandsMayBeWrong();
        waitingIsRefused();
        noSuchClientIsRefused();
        noSuchOpIsRefused();
        noSuchKeyIsRefused();
        noSuchMemberIsRefused();
        otherCommandsTakeNoMember();
        noSuchKeyToRenameToIsRefused();
        renameToTheSameKeyIsRefused();
        expireOutOfRangeIsRefused();
        refusedIsNotQueued();
        Probe.finish();
    }

    /** "A READY client does the command: its answer." */
    private static void readyDoesItAtOnce() {
        Probe s = new Probe();
        for (int client = 0; client < 4; client++) {
            s.command(client, Probe.BACK, 0, client, 0).is(client + 1);
        }
        s.isList(0, 0, 1, 2, 3);
    }

    /** "One that is GATHERING: QUEUED, to be done by commit" */
    private static void gatheringQueues() {
        Probe s = new Probe();
        s.begin(1).is(true);
        s.command(1, Probe.PUT, 0, 5, 0).is(Probe.QUEUED);
        s.isNothing(0);
        s.got(1, 0).is(Probe.GATHERING);
        s.command(0, Probe.ADD, 0, 1, 0).is(1);
        s.commit(1).is(1);
        s.isNumber(0, 5);
    }

    private static void gather(Probe s, int client, int count) {
        s.begin(client).is(true);
        for (int i = 0; i < count; i++) {
            s.command(client, Probe.BACK, client, i, 0).is(Probe.QUEUED);
        }
    }

    /** "FULL if 8 are": the eighth is not yet. */
    private static void gatheringQueuesEight() {
        Probe s = new Probe();
        gather(s, 1, 8);
        s.commit(1).is(8);
        s.isList(1, 0, 1, 2, 3, 4, 5, 6, 7);
    }

    /** "FULL if 8 are": and what was FULL is not done. */
    private static void gatheringIsFullWithEight() {
        Probe s = new Probe();
        gather(s, 1, 8);
        s.command(1, Probe.BACK, 1, 8, 0).is(Probe.FULL);
        s.command(1, Probe.PUT, 5, 8, 0).is(Probe.FULL);
        s.got(1, 0).is(Probe.GATHERING);
        s.commit(1).is(8);
        s.isList(1, 0, 1, 2, 3, 4, 5, 6, 7);
        s.isNothing(5);
    }

    private static void everyClientHasRoomForEight() {
        Probe s = new Probe();
        for (int client = 0; client < 4; client++) {
            gather(s, client, 8);
        }
        for (int client = 0; client < 4; client++) {
            s.command(client, Probe.BACK, client, 8, 0).is(Probe.FULL);
            s.commit(client).is(8);
        }
        for (int client = 0; client < 4; client++) {
            s.isList(client, 0, 1, 2, 3, 4, 5, 6, 7);
        }
    }

    private static void thereIsRoomAgainAfterTheEnd() {
        Probe s = new Probe();
        gather(s, 1, 8);
        s.cancel(1).is(true);
        gather(s, 1, 8);
        s.commit(1).is(8);
        gather(s, 1, 4);
        s.commit(1).is(4);
        s.ask(1, 2).is(12);
    }

    /** Whether a command is WRONG, FULL or EMPTY is told when it is done. */
    private static void queuedCommandsMayBeWrong() {
        Probe s = new Probe();
        s.put(0, 1).is(0);
        s.fillUp(2);
        s.begin(1).is(true);
        s.command(1, Probe.BACK, 0, 1, 0).is(Probe.QUEUED);
        s.command(1, Probe.BACK, 2, 1, 0).is(Probe.QUEUED);
        s.command(1, Probe.TAKE, 3, 1, 0).is(Probe.QUEUED);
        s.commit(1).is(3);
        s.result(1, 0).is(Probe.WRONG);
        s.result(1, 1).is(Probe.FULL);
        s.result(1, 2).is(Probe.EMPTY);
    }

    /** "REFUSED, and nothing changes, if it is WAITING": whatever the command. */
    private static void waitingIsRefused() {
        Probe s = new Probe();
        s.put(1, 1).is(0);
        s.listen(0, 2, 2, 9).is(Probe.NONE);
        for (int op = 0; op < 12; op++) {
            s.command(0, op, 1, 5, 5).is(Probe.REFUSED);
        }
        s.command(0, Probe.BACK, 2, 5, 0).is(Probe.REFUSED);
        s.isNumber(1, 1);
        s.isNothing(2);
        s.got(0, 0).is(Probe.WAITING);
        s.got(0, 3).is(9);
    }

    /** "or there is no such client" */
    private static void noSuchClientIsRefused() {
        Probe s = new Probe();
        for (int client : Probe.outside(4)) {
            s.command(client, Probe.PUT, 0, 1, 0).is(Probe.REFUSED);
        }
        s.isNothing(0);
    }

    /** "op" */
    private static void noSuchOpIsRefused() {
        Probe s = new Probe();
        s.put(0, 1).is(0);
        for (int op : Probe.outside(12)) {
            s.command(0, op, 0, 1, 0).is(Probe.REFUSED);
        }
        s.isNumber(0, 1);
        s.isNothing(1);
        s.command(0, Probe.RENAME, 0, 1, 0).is(1);
    }

    /** "key" */
    private static void noSuchKeyIsRefused() {
        Probe s = new Probe();
        for (int key : Probe.outside(8)) {
            for (int op = 0; op < 12; op++) {
                s.command(0, op, key, 1, 0).is(Probe.REFUSED);
            }
        }
        for (int key = 0; key < 8; key++) {
            s.isNothing(key);
        }
    }

    /** "member (7 to 9)" */
    private static void noSuchMemberIsRefused() {
        Probe s = new Probe();
        s.score(0, 0, 1).is(1);
        for (int op = Probe.SCORE; op <= Probe.STRIKE; op++) {
            for (int m : Probe.outside(16)) {
                s.command(0, op, 0, m, 1).is(Probe.REFUSED);
                s.command(0, op, 1, m, 1).is(Probe.REFUSED);
            }
        }
        s.isRanking(0, 0);
        s.isNothing(1);
        s.command(0, Probe.SCORE, 1, 15, 1).is(1);
        s.command(0, Probe.RAISE, 1, 15, 1).is(2);
        s.command(0, Probe.STRIKE, 1, 15, 1).is(1);
    }

    /** "(7 to 9)": neither TAKE, which is 6, nor LEAST, which is 10, has a member. */
    private static void otherCommandsTakeNoMember() {
        for (int a : Probe.outside(16)) {
            Probe s = new Probe();
            s.back(0, 5).is(1);
            s.score(1, 6, 0).is(1);
            s.command(0, Probe.TAKE, 0, a, 0).is(5);
            s.command(0, Probe.LEAST, 1, a, 0).is(6);
        }
    }

    /** "or key a (11" */
    private static void noSuchKeyToRenameToIsRefused() {
        Probe s = new Probe();
        s.put(0, 1).is(0);
        for (int a : Probe.outside(8)) {
            s.command(0, Probe.RENAME, 0, a, 0).is(Probe.REFUSED);
            s.command(0, Probe.RENAME, 1, a, 0).is(Probe.REFUSED);
        }
        s.isNumber(0, 1);
        s.command(0, Probe.RENAME, 0, 7, 0).is(1);
        s.command(0, Probe.RENAME, 7, 0, 0).is(1);
    }

    /** "the same key too)" */
    private static void renameToTheSameKeyIsRefused() {
        Probe s = new Probe();
        s.put(7, 1).is(0);
        s.expire(7, 9).is(1);
        for (int key = 0; key < 8; key++) {
            s.command(0, Probe.RENAME, key, key, 0).is(Probe.REFUSED);
        }
        s.isNumber(7, 1);
        s.ask(7, 3).is(9);
    }

    /** "or for 3 a is out of range": also on a key that is NOTHING. */
    private static void expireOutOfRangeIsRefused() {
        Probe s = new Probe();
        s.put(0, 1).is(0);
        s.expire(0, 9).is(1);
        for (int a : Probe.outside(101)) {
            s.command(0, Probe.EXPIRE, 0, a, 0).is(Probe.REFUSED);
            s.command(0, Probe.EXPIRE, 1, a, 0).is(Probe.REFUSED);
        }
        s.ask(0, 3).is(9);
        s.command(0, Probe.EXPIRE, 0, 100, 0).is(1);
        s.command(0, Probe.EXPIRE, 0, 0, 0).is(1);
    }

    /** "REFUSED, and nothing changes": what is REFUSED takes no place among the eight. */
    private static void refusedIsNotQueued() {
        Probe s = new Probe();
        gather(s, 1, 7);
        s.command(1, 12, 0, 0, 0).is(Probe.REFUSED);
        s.command(1, Probe.PUT, 8, 0, 0).is(Probe.REFUSED);
        s.command(1, Probe.SCORE, 0, 16, 0).is(Probe.REFUSED);
        s.command(1, Probe.RENAME, 0, 8, 0).is(Probe.REFUSED);
        s.command(1, Probe.RENAME, 1, 1, 0).is(Probe.REFUSED);
        s.command(1, Probe.EXPIRE, 1, 101, 0).is(Probe.REFUSED);
        s.command(1, Probe.BACK, 1, 7, 0).is(Probe.QUEUED);
        s.commit(1).is(8);
        s.isList(1, 0, 1, 2, 3, 4, 5, 6, 7);
    }
}
