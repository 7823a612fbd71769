/** Terms, second and last paragraph: when a key CHANGES, and so deceives a client that watches it. */
public final class TermsChangesTest {
    public static void main(String[] args) {
        putChanges();
        addChanges();
        frontAndBackChange();
        raiseChanges();
        takeChanges();
        leastChanges();
        wrongChangesNot();
        fullChangesNot();
        emptyChangesNot();
        dropThatAnswersOneChanges();
        expireThatAnswersOneChanges();
        strikeThatAnswersOneChanges();
        dropExpireStrikeThatAnswerZeroChangeNot();
        scoreOfANewMemberChanges();
        scoreWithAnotherScoreChanges();
        scoreWithTheSameScoreChangesNot();
        renameChangesBothKeys();
        renameThatAnswersZeroChangesNeither();
        aDeadlineThatMakesItNothingChanges();
        aDeadlineThatIsNotReachedChangesNot();
        aClientThatWaitedChangesWhatItTakesFrom();
        aClientThatListensChangesWhatItTakesFrom();
        waitingAndItsEndChangeNot();
        refusedChangesNot();
        queuedChangesOnlyByCommit();
        syncAndRewriteChangeNot();
        otherKeysChangeNot();
        whatChangedBeforeDeceivesNot();
        whatChangesBackDeceives();
        aChangeBesideOthersDeceives();
        ownChangesDeceive();
        Probe.finish();
    }

    /** Client 2 watches the key while client 3 does the command. */
    private static void changes(Probe s, boolean want, int op, int key, int a, int b) {
        s.watch(2, key).is(true);
        s.command(3, op, key, a, b);
        s.deceived(2, want);
    }

    /** "A key CHANGES by PUT ... that are not WRONG, FULL, EMPTY": also if it is what it was. */
    private static void putChanges() {
        Probe s = new Probe();
        changes(s, true, Probe.PUT, 1, 5, 0);
        changes(s, true, Probe.PUT, 1, 5, 0);
        changes(s, true, Probe.PUT, 1, 6, 0);
    }

    /** "ADD": also of 0. */
    private static void addChanges() {
        Probe s = new Probe();
        changes(s, true, Probe.ADD, 1, 0, 0);
        changes(s, true, Probe.ADD, 1, 0, 0);
        changes(s, true, Probe.ADD, 1, 7, 0);
    }

    /** "FRONT, BACK" */
    private static void frontAndBackChange() {
        Probe s = new Probe();
        changes(s, true, Probe.FRONT, 1, 5, 0);
        changes(s, true, Probe.FRONT, 1, 5, 0);
        changes(s, true, Probe.BACK, 2, 5, 0);
        changes(s, true, Probe.BACK, 2, 5, 0);
    }

    /** "RAISE": also by 0. */
    private static void raiseChanges() {
        Probe s = new Probe();
        changes(s, true, Probe.RAISE, 1, 3, 0);
        changes(s, true, Probe.RAISE, 1, 3, 0);
        changes(s, true, Probe.RAISE, 1, 3, 7);
        s.rankUp(2);
        changes(s, true, Probe.RAISE, 2, 11, 0);
    }

    /** "TAKE": also of the last element that is there. */
    private static void takeChanges() {
        Probe s = new Probe();
        s.fill(1, 5, 6, 7);
        changes(s, true, Probe.TAKE, 1, 0, 0);
        changes(s, true, Probe.TAKE, 1, 1, 0);
        changes(s, true, Probe.TAKE, 1, 0, 0);
    }

    /** "LEAST": also of the last member that is there. */
    private static void leastChanges() {
        Probe s = new Probe();
        s.score(1, 3, 0).is(1);
        s.score(1, 4, 0).is(1);
        changes(s, true, Probe.LEAST, 1, 0, 0);
        changes(s, true, Probe.LEAST, 1, 0, 0);
    }

    /** "that are not WRONG" */
    private static void wrongChangesNot() {
        Probe s = new Probe();
        s.put(1, 10).is(0);
        s.fill(2, 20, 21);
        s.score(3, 3, 30).is(1);
        changes(s, false, Probe.ADD, 2, 1, 0);
        changes(s, false, Probe.ADD, 3, 1, 0);
        for (int op = Probe.FRONT; op <= Probe.TAKE; op++) {
            changes(s, false, op, 1, 1, 0);
            changes(s, false, op, 3, 1, 0);
        }
        for (int op = Probe.SCORE; op <= Probe.LEAST; op++) {
            changes(s, false, op, 1, 1, 0);
            changes(s, false, op, 2, 1, 0);
        }
    }

    /** "FULL" */
    private static void fullChangesNot() {
        Probe s = new Probe();
        s.fillUp(1);
        s.rankUp(2);
        changes(s, false, Probe.FRONT, 1, 5, 0);
        changes(s, false, Probe.BACK, 1, 5, 0);
        changes(s, false, Probe.SCORE, 2, 12, 0);
        changes(s, false, Probe.RAISE, 2, 12, 0);
    }

    /** "EMPTY" */
    private static void emptyChangesNot() {
        Probe s = new Probe();
        changes(s, false, Probe.TAKE, 1, 0, 0);
        changes(s, false, Probe.TAKE, 1, 1, 0);
        changes(s, false, Probe.LEAST, 1, 0, 0);
    }

    /** "by DROP, EXPIRE, STRIKE that answer 1" */
    private static void dropThatAnswersOneChanges() {
        Probe s = new Probe();
        s.put(1, 10).is(0);
        s.fill(2, 20, 21);
        s.score(3, 3, 30).is(1);
        for (int key = 1; key <= 3; key++) {
            changes(s, true, Probe.DROP, key, 0, 0);
        }
    }

    /** "by DROP, EXPIRE, STRIKE that answer 1": also if the deadline is what it was. */
    private static void expireThatAnswersOneChanges() {
        Probe s = new Probe();
        s.put(1, 10).is(0);
        changes(s, true, Probe.EXPIRE, 1, 0, 0);
        changes(s, true, Probe.EXPIRE, 1, 5, 0);
        changes(s, true, Probe.EXPIRE, 1, 5, 0);
        changes(s, true, Probe.EXPIRE, 1, 0, 0);
    }

    /** "by DROP, EXPIRE, STRIKE that answer 1" */
    private static void strikeThatAnswersOneChanges() {
        Probe s = new Probe();
        s.score(1, 3, 0).is(1);
        s.score(1, 4, 0).is(1);
        changes(s, true, Probe.STRIKE, 1, 4, 0);
        changes(s, true, Probe.STRIKE, 1, 3, 0);
    }

    private static void dropExpireStrikeThatAnswerZeroChangeNot() {
        Probe s = new Probe();
        changes(s, false, Probe.DROP, 1, 0, 0);
        changes(s, false, Probe.EXPIRE, 1, 5, 0);
        changes(s, false, Probe.EXPIRE, 1, 0, 0);
        changes(s, false, Probe.STRIKE, 1, 3, 0);
        s.score(1, 4, 0).is(1);
        changes(s, false, Probe.STRIKE, 1, 3, 0);
    }

    /** "SCORE if the member is new": also if the score is 0. */
    private static void scoreOfANewMemberChanges() {
        Probe s = new Probe();
        changes(s, true, Probe.SCORE, 1, 3, 0);
        changes(s, true, Probe.SCORE, 1, 4, 0);
    }

    /** "or had another score": also if the order stays. */
    private static void scoreWithAnotherScoreChanges() {
        Probe s = new Probe();
        s.score(1, 3, 0).is(1);
        s.score(1, 4, 5).is(1);
        changes(s, true, Probe.SCORE, 1, 3, 1);
        changes(s, true, Probe.SCORE, 1, 3, 9);
        s.rankUp(2);
        changes(s, true, Probe.SCORE, 2, 11, 0);
    }

    private static void scoreWithTheSameScoreChangesNot() {
        Probe s = new Probe();
        s.score(1, 3, 0).is(1);
        s.score(1, 4, 5).is(1);
        changes(s, false, Probe.SCORE, 1, 3, 0);
        changes(s, false, Probe.SCORE, 1, 4, 5);
        s.rankUp(2);
        changes(s, false, Probe.SCORE, 2, 11, 11);
    }

    /** "RENAME that answers 1 (both keys)" */
    private static void renameChangesBothKeys() {
        Probe s = new Probe();
        s.put(0, 1).is(0);
        s.watch(1, 0).is(true);
        s.watch(2, 5).is(true);
        s.rename(0, 5).is(1);
        s.deceived(1, true);
        s.deceived(2, true);
        s.put(0, 1).is(0);
        s.watch(1, 0).is(true);
        s.watch(2, 5).is(true);
        s.rename(0, 5).is(1);
        s.deceived(1, true);
        s.deceived(2, true);
    }

    private static void renameThatAnswersZeroChangesNeither() {
        Probe s = new Probe();
        s.put(5, 1).is(0);
        s.watch(1, 0).is(true);
        s.watch(2, 5).is(true);
        s.rename(0, 5).is(0);
        s.deceived(1, false);
        s.deceived(2, false);
    }

    /** "when its deadline makes it NOTHING" */
    private static void aDeadlineThatMakesItNothingChanges() {
        Probe s = new Probe();
        s.put(1, 1).is(0);
        s.expire(1, 5).is(1);
        s.watch(2, 1).is(true);
        s.tick(5).is(1);
        s.deceived(2, true);
        s.fill(1, 1, 2);
        s.expire(1, 5).is(1);
        s.watch(2, 1).is(true);
        s.begin(2).is(true);
        s.tick(50).is(1);
        s.commit(2).is(-2);
    }

    private static void aDeadlineThatIsNotReachedChangesNot() {
        Probe s = new Probe();
        s.put(0, 1).is(0);
        s.put(1, 1).is(0);
        s.put(2, 1).is(0);
        s.expire(0, 4).is(1);
        s.expire(1, 5).is(1);
        s.watch(2, 1).is(true);
        s.watch(2, 2).is(true);
        s.watch(2, 3).is(true);
        s.tick(4).is(1);
        s.deceived(2, false);
    }

    /** "and when a client that waited, or listens, takes from it"; what made it a list has changed it, too. */
    private static void aClientThatWaitedChangesWhatItTakesFrom() {
        Probe s = new Probe();
        s.listen(0, 4, 4, 0).is(Probe.NONE);
        s.listen(1, 4, 4, 0).is(Probe.NONE);
        s.fill(5, 1, 2, 3);
        s.watch(2, 4).is(true);
        s.rename(5, 4).is(1);
        s.got(1, 1).is(2);
        s.deceived(2, true);
        s.isList(4, 3);
    }

    /** "or listens, takes from it": from the one that it takes from. */
    private static void aClientThatListensChangesWhatItTakesFrom() {
        Probe s = new Probe();
        s.fill(4, 1, 2);
        s.watch(1, 4).is(true);
        s.watch(2, 4).is(true);
        s.listen(0, 4, 4, 0).is(1);
        s.deceived(2, true);
        s.deceived(1, true);
        s.watch(1, 4).is(true);
        s.watch(2, 5).is(true);
        s.listen(0, 5, 4, 0).is(2);
        s.deceived(1, true);
        s.deceived(2, false);
        s.fill(4, 1);
        s.fill(5, 1);
        s.watch(1, 4).is(true);
        s.watch(2, 5).is(true);
        s.listen(0, 4, 5, 0).is(1);
        s.deceived(1, true);
        s.deceived(2, false);
    }

    private static void waitingAndItsEndChangeNot() {
        Probe s = new Probe();
        s.watch(2, 4).is(true);
        s.watch(2, 5).is(true);
        s.listen(0, 4, 5, 3).is(Probe.NONE);
        s.tick(3).is(0);
        s.got(0, 0).is(Probe.READY);
        s.deceived(2, false);
    }

    private static void refusedChangesNot() {
        Probe s = new Probe();
        s.put(1, 1).is(0);
        changes(s, false, Probe.EXPIRE, 1, 101, 0);
        changes(s, false, Probe.RENAME, 1, 8, 0);
        changes(s, false, Probe.RENAME, 1, 1, 0);
        s.rankUp(2);
        changes(s, false, Probe.SCORE, 2, 16, 0);
        s.watch(2, 1).is(true);
        s.listen(0, 7, 7, 0).is(Probe.NONE);
        s.command(0, Probe.DROP, 1, 0, 0).is(Probe.REFUSED);
        s.command(4, Probe.DROP, 1, 0, 0).is(Probe.REFUSED);
        s.deceived(2, false);
    }

    private static void queuedChangesOnlyByCommit() {
        Probe s = new Probe();
        s.watch(1, 1).is(true);
        s.watch(2, 1).is(true);
        s.begin(0).is(true);
        s.command(0, Probe.PUT, 1, 1, 0).is(Probe.QUEUED);
        s.deceived(1, false);
        s.commit(0).is(1);
        s.deceived(2, true);
        s.watch(2, 1).is(true);
        s.begin(0).is(true);
        s.command(0, Probe.PUT, 1, 1, 0).is(Probe.QUEUED);
        s.cancel(0).is(true);
        s.deceived(2, false);
    }

    private static void syncAndRewriteChangeNot() {
        Probe s = new Probe();
        s.put(1, 1).is(0);
        s.watch(2, 1).is(true);
        s.sync();
        s.rewrite();
        s.deceived(2, false);
    }

    private static void otherKeysChangeNot() {
        for (int key = 0; key < 8; key++) {
            Probe s = new Probe();
            for (int watched = 0; watched < 8; watched++) {
                s.watch(watched == key ? 1 : 2, watched).is(true);
            }
            s.put(key, 1).is(0);
            s.deceived(1, true);
            s.deceived(2, false);
        }
    }

    /** "It is DECEIVED if one of these changed after it began to watch it." */
    private static void whatChangedBeforeDeceivesNot() {
        Probe s = new Probe();
        s.put(1, 1).is(0);
        s.watch(2, 1).is(true);
        s.deceived(2, false);
        s.watch(1, 1).is(true);
        s.put(1, 2).is(0);
        s.watch(2, 1).is(true);
        s.deceived(2, false);
        s.deceived(1, true);
    }

    /** A change counts, not a difference. */
    private static void whatChangesBackDeceives() {
        Probe s = new Probe();
        s.watch(2, 1).is(true);
        s.put(1, 1).is(0);
        s.drop(1).is(1);
        s.isNothing(1);
        s.deceived(2, true);
        s.fill(1, 5, 6);
        s.watch(2, 1).is(true);
        s.take(1, 1).is(6);
        s.back(1, 6).is(2);
        s.deceived(2, true);
    }

    /** "if one of these changed": be it the first, a middle or the last. */
    private static void aChangeBesideOthersDeceives() {
        Probe s = new Probe();
        for (int key = 0; key < 8; key++) {
            for (int watched = 0; watched < 8; watched++) {
                s.watch(2, watched).is(true);
            }
            s.put(key, 1).is(0);
            s.deceived(2, true);
        }
    }

    /** The document excepts nobody's changes; what a commit does itself comes after the test. */
    private static void ownChangesDeceive() {
        Probe s = new Probe();
        s.watch(2, 1).is(true);
        s.command(2, Probe.PUT, 1, 1, 0).is(0);
        s.deceived(2, true);
        s.fill(4, 1);
        s.watch(2, 4).is(true);
        s.listen(2, 4, 4, 0).is(1);
        s.deceived(2, true);
        s.watch(2, 4).is(true);
        s.listen(2, 4, 4, 0).is(Probe.NONE);
        s.fill(4, 1);
        s.deceived(2, true);
        s.watch(2, 1).is(true);
        s.begin(2).is(true);
        s.command(2, Probe.PUT, 1, 1, 0).is(Probe.QUEUED);
        s.commit(2).is(1);
    }
}
