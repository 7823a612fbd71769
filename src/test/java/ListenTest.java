/** Promise 3: listen. How clients that wait are served is tested where the terms name it. */
public final class ListenTest {
    public static void main(String[] args) {
        takesTheFirstOfKey();
        takesTheFirstOfOtherIfKeyIsNoList();
        takesFromKeyIfBothAreLists();
        takesTheOnlyElement();
        wrongIfKeyIsANumberOrRanking();
        wrongIfOtherIsANumberOrRanking();
        wrongBesideAList();
        wrongChangesNothing();
        elseWaits();
        waitsUntilTheLimit();
        theLimitCountsFromTheTime();
        withZeroWaitsWithoutAnEnd();
        waitingIsRefused();
        refusedKeepsItsTurn();
        gatheringIsRefused();
        noSuchClientIsRefused();
        noSuchKeyIsRefused();
        noSuchOtherIsRefused();
        limitOutOfRangeIsRefused();
        refusedTakesNothing();
        Probe.finish();
    }

    /** "A READY client takes the first element of key ... it, at once." */
    private static void takesTheFirstOfKey() {
        Probe s = new Probe();
        s.fill(1, 10, 11, 12);
        for (int client = 0; client < 3; client++) {
            s.listen(client, 1, 2, 0).is(10 + client);
            s.got(client, 0).is(Probe.READY);
            s.ask(1, 2).is(2 - client);
        }
    }

    /** "or if that is no list of other" */
    private static void takesTheFirstOfOtherIfKeyIsNoList() {
        Probe s = new Probe();
        s.fill(2, 20, 21);
        s.listen(0, 1, 2, 0).is(20);
        s.got(0, 0).is(Probe.READY);
        s.got(0, 2).is(2);
        s.isList(2, 21);
        s.isNothing(1);
    }

    /** "of key, or if that is no list of other": also if key is the greater one. */
    private static void takesFromKeyIfBothAreLists() {
        Probe s = new Probe();
        s.fill(1, 10, 11);
        s.fill(2, 20, 21);
        s.listen(0, 2, 1, 50).is(20);
        s.listen(0, 1, 2, 1).is(10);
        s.isList(1, 11);
        s.isList(2, 21);
    }

    private static void takesTheOnlyElement() {
        Probe s = new Probe();
        s.fill(1, 10);
        s.listen(0, 1, 1, 0).is(10);
        s.isNothing(1);
        s.listen(0, 1, 1, 0).is(Probe.NONE);
    }

    private static Probe oneOfEachKind() {
        Probe s = new Probe();
        s.put(1, 1).is(0);
        s.fill(2, 20);
        s.score(3, 1, 1).is(1);
        return s;
    }

    /** "WRONG if one of both is a number or ranking." */
    private static void wrongIfKeyIsANumberOrRanking() {
        Probe s = oneOfEachKind();
        s.listen(0, 1, 0, 0).is(Probe.WRONG);
        s.listen(0, 3, 0, 0).is(Probe.WRONG);
        s.listen(0, 1, 1, 0).is(Probe.WRONG);
        s.listen(0, 3, 3, 0).is(Probe.WRONG);
        s.listen(0, 1, 3, 5).is(Probe.WRONG);
        s.listen(0, 3, 1, 5).is(Probe.WRONG);
    }

    private static void wrongIfOtherIsANumberOrRanking() {
        Probe s = oneOfEachKind();
        s.listen(0, 0, 1, 0).is(Probe.WRONG);
        s.listen(0, 0, 3, 0).is(Probe.WRONG);
    }

    /** "if one of both is": the document makes no exception for the other one being a list. */
    private static void wrongBesideAList() {
        Probe s = oneOfEachKind();
        s.listen(0, 1, 2, 0).is(Probe.WRONG);
        s.listen(0, 3, 2, 0).is(Probe.WRONG);
        s.listen(0, 2, 1, 0).is(Probe.WRONG);
        s.listen(0, 2, 3, 0).is(Probe.WRONG);
        s.isList(2, 20);
    }

    private static void wrongChangesNothing() {
        Probe s = oneOfEachKind();
        s.listen(0, 1, 0, 9).is(Probe.WRONG);
        s.listen(0, 0, 3, 9).is(Probe.WRONG);
        s.got(0, 0).is(Probe.READY);
        s.got(0, 3).is(Probe.NONE);
        s.isNumber(1, 1);
        s.isRanking(3, 1);
        s.fill(0, 5);
        s.isList(0, 5);
    }

    /** "Else NONE, and it is WAITING for both" */
    private static void elseWaits() {
        for (int client = 0; client < 3; client++) {
            Probe s = new Probe();
            s.listen(client, 6, 7, 5).is(Probe.NONE);
            s.got(client, 0).is(Probe.WAITING);
            s.fill(6, 60);
            s.got(client, 1).is(60);
            s.listen(client, 6, 7, 5).is(Probe.NONE);
            s.fill(7, 70);
            s.got(client, 1).is(70);
            s.got((client + 1) % 4, 0).is(Probe.READY);
        }
    }

    /** "with limit (1..50) until the TIME + limit" */
    private static void waitsUntilTheLimit() {
        Probe s = new Probe();
        s.listen(0, 0, 0, 1).is(Probe.NONE);
        s.listen(1, 0, 0, 50).is(Probe.NONE);
        s.got(0, 3).is(1);
        s.got(1, 3).is(50);
        s.tick(0).is(0);
        s.got(0, 0).is(Probe.WAITING);
        s.tick(1).is(0);
        s.got(0, 0).is(Probe.READY);
        s.tick(48).is(0);
        s.got(1, 0).is(Probe.WAITING);
        s.tick(1).is(0);
        s.got(1, 0).is(Probe.READY);
    }

    /** "until the TIME + limit" */
    private static void theLimitCountsFromTheTime() {
        Probe s = new Probe();
        s.tick(50).is(0);
        s.listen(0, 0, 0, 3).is(Probe.NONE);
        s.got(0, 3).is(3);
        s.tick(2).is(0);
        s.got(0, 0).is(Probe.WAITING);
        s.tick(1).is(0);
        s.got(0, 0).is(Probe.READY);
    }

    /** "with 0 without an end": at the TIME 0 and later. */
    private static void withZeroWaitsWithoutAnEnd() {
        Probe s = new Probe();
        for (int client = 0; client < 2; client++) {
            s.listen(client, 0, 0, 0).is(Probe.NONE);
            s.got(client, 3).is(Probe.NONE);
            s.tick(0).is(0);
            s.got(client, 0).is(Probe.WAITING);
            for (int i = 0; i < 10; i++) {
                s.tick(50).is(0);
            }
            s.got(client, 0).is(Probe.WAITING);
            s.got(client, 3).is(Probe.NONE);
        }
        s.fill(0, 5, 6);
        s.got(0, 1).is(5);
        s.got(1, 1).is(6);
    }

    /** "REFUSED if it is not READY": and it goes on to wait for what it waited for. */
    private static void waitingIsRefused() {
        Probe s = new Probe();
        s.listen(0, 1, 2, 9).is(Probe.NONE);
        s.fill(5, 50);
        s.listen(0, 5, 5, 3).is(Probe.REFUSED);
        s.listen(0, 6, 6, 0).is(Probe.REFUSED);
        s.got(0, 3).is(9);
        s.isList(5, 50);
        s.fill(6, 60);
        s.got(0, 0).is(Probe.WAITING);
        s.fill(2, 20);
        s.got(0, 1).is(20);
    }

    private static void refusedKeepsItsTurn() {
        Probe s = new Probe();
        s.listen(1, 5, 5, 0).is(Probe.NONE);
        s.listen(0, 5, 5, 0).is(Probe.NONE);
        s.listen(1, 5, 5, 0).is(Probe.REFUSED);
        s.fill(5, 50);
        s.got(1, 1).is(50);
        s.got(0, 0).is(Probe.WAITING);
    }

    private static void gatheringIsRefused() {
        Probe s = new Probe();
        s.fill(5, 50);
        s.begin(0).is(true);
        s.command(0, Probe.PUT, 1, 1, 0).is(Probe.QUEUED);
        s.listen(0, 5, 5, 0).is(Probe.REFUSED);
        s.listen(0, 6, 6, 0).is(Probe.REFUSED);
        s.got(0, 0).is(Probe.GATHERING);
        s.isList(5, 50);
        s.commit(0).is(1);
    }

    /** "or one is not there": the client. */
    private static void noSuchClientIsRefused() {
        Probe s = new Probe();
        s.fill(5, 50);
        for (int client : Probe.outside(4)) {
            s.listen(client, 5, 5, 0).is(Probe.REFUSED);
            s.listen(client, 6, 6, 0).is(Probe.REFUSED);
        }
        s.isList(5, 50);
    }

    /** "or one is not there": key. */
    private static void noSuchKeyIsRefused() {
        Probe s = new Probe();
        s.fill(5, 50);
        for (int key : Probe.outside(8)) {
            s.listen(0, key, 5, 0).is(Probe.REFUSED);
            s.listen(0, key, 6, 0).is(Probe.REFUSED);
        }
        s.got(0, 0).is(Probe.READY);
        s.isList(5, 50);
    }

    /** "or one is not there": other, though key alone would do. */
    private static void noSuchOtherIsRefused() {
        Probe s = new Probe();
        s.fill(5, 50);
        for (int other : Probe.outside(8)) {
            s.listen(0, 5, other, 0).is(Probe.REFUSED);
            s.listen(0, 6, other, 0).is(Probe.REFUSED);
        }
        s.got(0, 0).is(Probe.READY);
        s.isList(5, 50);
    }

    /** "or out of range": the limit, also where there is something to take at once. */
    private static void limitOutOfRangeIsRefused() {
        Probe s = new Probe();
        s.fill(5, 50);
        for (int limit : Probe.outside(51)) {
            s.listen(0, 5, 5, limit).is(Probe.REFUSED);
            s.listen(0, 6, 6, limit).is(Probe.REFUSED);
        }
        s.got(0, 0).is(Probe.READY);
        s.isList(5, 50);
        s.listen(0, 6, 6, 50).is(Probe.NONE);
    }

    private static void refusedTakesNothing() {
        Probe s = new Probe();
        s.fill(5, 50, 51);
        s.watch(2, 5).is(true);
        s.listen(0, 5, 5, 51).is(Probe.REFUSED);
        s.listen(4, 5, 5, 0).is(Probe.REFUSED);
        s.listen(0, 5, 8, 0).is(Probe.REFUSED);
        s.got(0, 1).is(Probe.NONE);
        s.isList(5, 50, 51);
        s.deceived(2, false);
    }
}
