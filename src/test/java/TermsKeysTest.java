/** Terms, first paragraph: what keys can be. */
public final class TermsKeysTest {
    public static void main(String[] args) {
        keysAreZeroToSeven();
        aNumberIsAnyInt();
        aListHasOneElementOrMore();
        aListHasTwelveElementsAtMost();
        elementsAreAnyInts();
        aRankingHasOneMemberOrMore();
        aRankingHasTwelveMembersAtMost();
        membersAreZeroToFifteen();
        scoresAreAnyInts();
        theOrderIsByScores();
        theOrderOfEqualScoresIsByMembers();
        aListEmptiedFromItsFrontIsNothing();
        aListEmptiedFromItsBackIsNothing();
        aListEmptiedByListenIsNothing();
        aListEmptiedByOneThatWaitedIsNothing();
        aListEmptiedInACommitIsNothing();
        aRankingEmptiedByStrikeIsNothing();
        aRankingEmptiedByLeastIsNothing();
        theTimeIsZeroAtFirst();
        everyKindMayHaveADeadline();
        nothingHasNoDeadline();
        Probe.finish();
    }

    /** "KEYS 0..7" */
    private static void keysAreZeroToSeven() {
        Probe s = new Probe();
        for (int key = 0; key < 8; key++) {
            s.put(key, 100 + key).is(0);
        }
        for (int key = 0; key < 8; key++) {
            s.isNumber(key, 100 + key);
        }
        for (int key : Probe.outside(8)) {
            s.put(key, 1).is(Probe.REFUSED);
            s.ask(key, 0).is(-1);
        }
    }

    /** "a NUMBER (1; an int)" */
    private static void aNumberIsAnyInt() {
        Probe s = new Probe();
        int[] ints = {Probe.LOW, -1, 0, Probe.HIGH};
        for (int i : ints) {
            s.put(4, i).is(0);
            s.isNumber(4, i);
        }
    }

    /** "a LIST (2; of 1 to 12 ints)": 1 */
    private static void aListHasOneElementOrMore() {
        Probe s = new Probe();
        s.back(0, 5).is(1);
        s.isList(0, 5);
    }

    /** "a LIST (2; of 1 to 12 ints)": 12, in neighbours that must not reach into each other. */
    private static void aListHasTwelveElementsAtMost() {
        Probe s = new Probe();
        for (int key = 5; key < 8; key++) {
            for (int i = 0; i < 12; i++) {
                s.back(key, 100 * key + i).is(i + 1);
            }
            s.back(key, 0).is(Probe.FULL);
        }
        for (int key = 5; key < 8; key++) {
            s.ask(key, 2).is(12);
            for (int i = 0; i < 12; i++) {
                s.element(key, i).is(100 * key + i);
            }
        }
    }

    /** "of 1 to 12 ints": also those that stand for nothing else, and zero. */
    private static void elementsAreAnyInts() {
        Probe s = new Probe();
        s.fill(2, Probe.LOW, 0, -1, Probe.HIGH);
        s.isList(2, Probe.LOW, 0, -1, Probe.HIGH);
        s.take(2, 0).is(Probe.LOW);
        s.take(2, 1).is(Probe.HIGH);
        s.listen(0, 2, 2, 0).is(0);
        s.listen(0, 2, 2, 0).is(-1);
    }

    /** "a RANKING (3; of 1 to 12 of the MEMBERS": 1 */
    private static void aRankingHasOneMemberOrMore() {
        Probe s = new Probe();
        s.score(0, 5, 7).is(1);
        s.isRanking(0, 5);
    }

    /** "a RANKING (3; of 1 to 12 of the MEMBERS": 12, in neighbours that must not reach into each other. */
    private static void aRankingHasTwelveMembersAtMost() {
        Probe s = new Probe();
        for (int key = 5; key < 8; key++) {
            for (int m = 0; m < 12; m++) {
                s.score(key, m, key * m).is(1);
            }
            s.score(key, 12, 0).is(Probe.FULL);
        }
        for (int key = 5; key < 8; key++) {
            s.ask(key, 2).is(12);
            for (int m = 0; m < 12; m++) {
                s.element(key, m).is(m);
                s.member(key, m, 0).is(key * m);
            }
        }
    }

    /** "the MEMBERS 0..15" */
    private static void membersAreZeroToFifteen() {
        Probe s = new Probe();
        for (int m = 0; m < 16; m++) {
            s.score(3, m, -m).is(1);
            s.member(3, m, 0).is(-m);
            s.strike(3, m).is(1);
        }
        for (int m : Probe.outside(16)) {
            s.score(3, m, 1).is(Probe.REFUSED);
        }
        s.isNothing(3);
    }

    /** "each with a SCORE, an int" */
    private static void scoresAreAnyInts() {
        Probe s = new Probe();
        int[] ints = {Probe.LOW, -1, 0, Probe.HIGH};
        for (int i : ints) {
            s.score(3, 2, i);
            s.member(3, 2, 0).is(i);
        }
    }

    /** "its ORDER is by scores": also of scores whose difference is no int. */
    private static void theOrderIsByScores() {
        Probe s = new Probe();
        s.score(6, 0, Probe.HIGH).is(1);
        s.score(6, 1, 1).is(1);
        s.score(6, 2, 0).is(1);
        s.score(6, 3, -1).is(1);
        s.score(6, 4, Probe.LOW).is(1);
        s.isRanking(6, 4, 3, 2, 1, 0);
        s.score(6, 4, 2).is(0);
        s.isRanking(6, 3, 2, 1, 4, 0);
        s.score(6, 0, Probe.LOW).is(0);
        s.isRanking(6, 0, 3, 2, 1, 4);
        s.raise(6, 2, 2).is(2);
        s.isRanking(6, 0, 3, 1, 2, 4);
    }

    /** "of equal ones by members": however they came there. */
    private static void theOrderOfEqualScoresIsByMembers() {
        Probe s = new Probe();
        s.score(6, 9, 4).is(1);
        s.score(6, 15, 4).is(1);
        s.score(6, 0, 4).is(1);
        s.score(6, 8, 3).is(1);
        s.score(6, 1, 5).is(1);
        s.isRanking(6, 8, 0, 9, 15, 1);
        s.score(6, 8, 4).is(0);
        s.raise(6, 1, -1).is(4);
        s.isRanking(6, 0, 1, 8, 9, 15);
    }

    private static Probe oneElementWithADeadline() {
        Probe s = new Probe();
        s.back(5, 50).is(1);
        s.expire(5, 10).is(1);
        return s;
    }

    /** Also what comes to a key afterwards has nothing of what was there. */
    private static void becameNothing(Probe s) {
        s.isNothing(5);
        s.add(5, 3).is(3);
        s.isNumber(5, 3);
        s.ask(5, 3).is(-1);
        s.tick(10).is(0);
    }

    /** "Lists and rankings that become empty are NOTHING." */
    private static void aListEmptiedFromItsFrontIsNothing() {
        Probe s = oneElementWithADeadline();
        s.take(5, 0).is(50);
        becameNothing(s);
    }

    private static void aListEmptiedFromItsBackIsNothing() {
        Probe s = oneElementWithADeadline();
        s.take(5, 1).is(50);
        becameNothing(s);
    }

    private static void aListEmptiedByListenIsNothing() {
        Probe s = oneElementWithADeadline();
        s.listen(0, 5, 5, 0).is(50);
        becameNothing(s);
    }

    private static void aListEmptiedByOneThatWaitedIsNothing() {
        Probe s = new Probe();
        s.listen(0, 5, 5, 0).is(Probe.NONE);
        s.begin(1).is(true);
        s.command(1, Probe.BACK, 5, 50, 0).is(Probe.QUEUED);
        s.command(1, Probe.EXPIRE, 5, 10, 0).is(Probe.QUEUED);
        s.commit(1).is(2);
        s.got(0, 1).is(50);
        becameNothing(s);
    }

    private static void aListEmptiedInACommitIsNothing() {
        Probe s = oneElementWithADeadline();
        s.begin(1).is(true);
        s.command(1, Probe.TAKE, 5, 0, 0).is(Probe.QUEUED);
        s.command(1, Probe.ADD, 5, 0, 0).is(Probe.QUEUED);
        s.command(1, Probe.DROP, 5, 0, 0).is(Probe.QUEUED);
        s.commit(1).is(3);
        s.result(1, 1).is(0);
        becameNothing(s);
    }

    private static void aRankingEmptiedByStrikeIsNothing() {
        Probe s = new Probe();
        s.score(5, 15, 50).is(1);
        s.expire(5, 10).is(1);
        s.strike(5, 15).is(1);
        becameNothing(s);
    }

    private static void aRankingEmptiedByLeastIsNothing() {
        Probe s = new Probe();
        s.score(5, 15, 50).is(1);
        s.expire(5, 10).is(1);
        s.least(5).is(15);
        becameNothing(s);
    }

    /** "The TIME is 0 at first." */
    private static void theTimeIsZeroAtFirst() {
        Probe s = new Probe();
        s.put(0, 1).is(0);
        s.expire(0, 1).is(1);
        s.tick(0).is(0);
        s.ask(0, 3).is(1);
        s.tick(1).is(1);
    }

    /** "A key that is not NOTHING may have a DEADLINE, a time." */
    private static void everyKindMayHaveADeadline() {
        Probe s = new Probe();
        s.put(1, 1).is(0);
        s.back(2, 2).is(1);
        s.score(3, 3, 3).is(1);
        for (int key = 1; key <= 3; key++) {
            s.ask(key, 3).is(-1);
            s.expire(key, 10 * key).is(1);
        }
        for (int key = 1; key <= 3; key++) {
            s.ask(key, 3).is(10 * key);
        }
    }

    /** "A key that is not NOTHING may have a DEADLINE": and one that is NOTHING has none. */
    private static void nothingHasNoDeadline() {
        Probe s = new Probe();
        for (int key = 0; key < 3; key++) {
            s.put(key, 1).is(0);
            s.expire(key, 10).is(1);
        }
        s.drop(0).is(1);
        s.rename(1, 7).is(1);
        s.tick(10).is(2);
        for (int key = 0; key < 3; key++) {
            s.isNothing(key);
            s.back(key, 1).is(1);
            s.ask(key, 3).is(-1);
        }
        s.tick(50).is(0);
    }
}
