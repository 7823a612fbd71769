/** Terms, second paragraph: the commands on rankings. */
public final class TermsRankingsTest {
    public static void main(String[] args) {
        scoreOfANewMemberIsOne();
        scoreOfAMemberIsZero();
        scoreOfANewMemberIsFullWithTwelve();
        scoreOfAMemberIsNotFullWithTwelve();
        raiseOfANewMemberBeginsWithZero();
        raiseBeginsWithZeroInEveryKey();
        raiseWrapsUpwards();
        raiseWrapsDownwards();
        raiseOfANewMemberIsFullWithTwelve();
        raiseOfAMemberIsNotFullWithTwelve();
        afterStrikingThereIsRoomAgain();
        strikeOfAMemberIsOne();
        strikeOfNoMemberIsZero();
        strikeOfNothingIsZero();
        leastIsTheFirstInTheOrder();
        leastOfNothingIsEmpty();
        rankingsKeepTheirDeadline();
        Probe.finish();
    }

    /** "SCORE: member a gets the score b [1 if it is new" */
    private static void scoreOfANewMemberIsOne() {
        Probe s = new Probe();
        s.score(1, 0, 5).is(1);
        s.score(1, 15, -5).is(1);
        s.isRanking(1, 15, 0);
        s.member(1, 0, 0).is(5);
        s.member(1, 15, 0).is(-5);
        s.strike(1, 0).is(1);
        s.score(1, 0, 5).is(1);
    }

    /** "else 0" */
    private static void scoreOfAMemberIsZero() {
        Probe s = new Probe();
        s.score(1, 4, 5).is(1);
        s.score(1, 4, 6).is(0);
        s.member(1, 4, 0).is(6);
        s.score(1, 4, 6).is(0);
        s.isRanking(1, 4);
    }

    /** "FULL if it is new with 12]" */
    private static void scoreOfANewMemberIsFullWithTwelve() {
        Probe s = new Probe();
        s.rankUp(1);
        for (int m = 12; m < 16; m++) {
            s.score(1, m, -1).is(Probe.FULL);
            s.member(1, m, 0).is(Probe.NONE);
        }
        s.isRanking(1, 0, 1, 2, 3, 4, 5, 6, 7, 8, 9, 10, 11);
    }

    /** "FULL if it is new": not if it stands there already, be it the first, a middle or the last. */
    private static void scoreOfAMemberIsNotFullWithTwelve() {
        for (int m = 0; m < 12; m++) {
            Probe s = new Probe();
            s.rankUp(1);
            s.score(1, m, m).is(0);
            s.score(1, m, 99).is(0);
            s.element(1, 11).is(m);
            s.score(1, m, -1).is(0);
            s.element(1, 0).is(m);
            s.member(1, m, 0).is(-1);
            s.ask(1, 2).is(12);
        }
    }

    /** "RAISE: member a's score (0 if it is new) grows by b" */
    private static void raiseOfANewMemberBeginsWithZero() {
        Probe s = new Probe();
        s.raise(1, 4, -7).is(-7);
        s.raise(1, 4, 2).is(-5);
        s.raise(1, 5, 0).is(0);
        s.isRanking(1, 4, 5);
        s.member(1, 4, 0).is(-5);
        s.member(1, 5, 0).is(0);
        s.strike(1, 4).is(1);
        s.raise(1, 4, 1).is(1);
    }

    /** "(0 if it is new)": in every key, whatever stands in its neighbours. */
    private static void raiseBeginsWithZeroInEveryKey() {
        Probe s = new Probe();
        for (int key = 7; key >= 0; key--) {
            s.raise(key, 3, 5).is(5);
            s.member(key, 3, 0).is(5);
            s.drop(key).is(1);
            s.rankUp(key);
        }
        for (int key = 1; key < 8; key++) {
            s.drop(key).is(1);
            s.raise(key, 3, 5).is(5);
            s.drop(key).is(1);
            s.rankUp(key);
        }
    }

    /** "wrapping [that": and it stands in the order by what it is then. */
    private static void raiseWrapsUpwards() {
        Probe s = new Probe();
        s.score(1, 4, 0).is(1);
        s.score(1, 5, Probe.HIGH).is(1);
        s.raise(1, 5, 1).is(Probe.LOW);
        s.isRanking(1, 5, 4);
        s.member(1, 5, 0).is(Probe.LOW);
        s.score(1, 5, Probe.HIGH).is(0);
        s.raise(1, 5, Probe.HIGH).is(-2);
    }

    /** "wrapping [that" */
    private static void raiseWrapsDownwards() {
        Probe s = new Probe();
        s.score(1, 4, 0).is(1);
        s.score(1, 3, Probe.LOW).is(1);
        s.raise(1, 3, -1).is(Probe.HIGH);
        s.isRanking(1, 4, 3);
        s.member(1, 3, 0).is(Probe.HIGH);
        s.score(1, 3, Probe.LOW).is(0);
        s.raise(1, 3, Probe.LOW).is(0);
        s.isRanking(1, 3, 4);
    }

    /** "FULL likewise]" */
    private static void raiseOfANewMemberIsFullWithTwelve() {
        Probe s = new Probe();
        s.rankUp(1);
        for (int m = 12; m < 16; m++) {
            s.raise(1, m, -1).is(Probe.FULL);
            s.member(1, m, 0).is(Probe.NONE);
        }
        s.isRanking(1, 0, 1, 2, 3, 4, 5, 6, 7, 8, 9, 10, 11);
    }

    /** "likewise": not if it stands there already, be it the first, a middle or the last. */
    private static void raiseOfAMemberIsNotFullWithTwelve() {
        for (int m = 0; m < 12; m++) {
            Probe s = new Probe();
            s.rankUp(1);
            s.raise(1, m, 0).is(m);
            s.raise(1, m, 99).is(m + 99);
            s.element(1, 11).is(m);
            s.raise(1, m, -200).is(m - 101);
            s.element(1, 0).is(m);
            s.ask(1, 2).is(12);
        }
    }

    private static void afterStrikingThereIsRoomAgain() {
        Probe s = new Probe();
        s.rankUp(1);
        s.strike(1, 5).is(1);
        s.score(1, 15, 5).is(1);
        s.isRanking(1, 0, 1, 2, 3, 4, 15, 6, 7, 8, 9, 10, 11);
        s.least(1).is(0);
        s.raise(1, 14, 1).is(1);
        s.isRanking(1, 1, 14, 2, 3, 4, 15, 6, 7, 8, 9, 10, 11);
        s.score(1, 0, 0).is(Probe.FULL);
    }

    /** "STRIKE: a is no member any more [1" */
    private static void strikeOfAMemberIsOne() {
        Probe s = new Probe();
        s.rankUp(1);
        s.strike(1, 0).is(1);
        s.strike(1, 11).is(1);
        s.strike(1, 6).is(1);
        s.isRanking(1, 1, 2, 3, 4, 5, 7, 8, 9, 10);
        s.member(1, 6, 0).is(Probe.NONE);
        s.member(1, 7, 0).is(7);
        s.member(1, 10, 0).is(10);
    }

    /** "0 if it was none]" */
    private static void strikeOfNoMemberIsZero() {
        Probe s = new Probe();
        s.rankUp(1);
        s.strike(1, 12).is(0);
        s.strike(1, 15).is(0);
        s.isRanking(1, 0, 1, 2, 3, 4, 5, 6, 7, 8, 9, 10, 11);
        s.strike(1, 0).is(1);
        s.strike(1, 0).is(0);
    }

    /** "0 if it was none]" */
    private static void strikeOfNothingIsZero() {
        Probe s = new Probe();
        s.strike(1, 0).is(0);
        s.isNothing(1);
        s.score(1, 3, 3).is(1);
        s.strike(1, 3).is(1);
        s.strike(1, 3).is(0);
        s.isNothing(1);
    }

    /** "LEAST: the first member in the order is none any more [that" */
    private static void leastIsTheFirstInTheOrder() {
        Probe s = new Probe();
        s.score(1, 9, 1).is(1);
        s.score(1, 0, 2).is(1);
        s.score(1, 3, 1).is(1);
        s.score(1, 15, Probe.LOW).is(1);
        s.least(1).is(15);
        s.least(1).is(3);
        s.isRanking(1, 9, 0);
        s.member(1, 9, 0).is(1);
        s.member(1, 0, 0).is(2);
        s.least(1).is(9);
        s.least(1).is(0);
        s.isNothing(1);
    }

    /** "EMPTY if NOTHING]" */
    private static void leastOfNothingIsEmpty() {
        Probe s = new Probe();
        s.least(1).is(Probe.EMPTY);
        s.isNothing(1);
        s.score(1, 3, 3).is(1);
        s.least(1).is(3);
        s.least(1).is(Probe.EMPTY);
        s.isNothing(1);
    }

    private static void rankingsKeepTheirDeadline() {
        Probe s = new Probe();
        s.score(1, 3, 3).is(1);
        s.expire(1, 9).is(1);
        s.score(1, 3, 4).is(0);
        s.ask(1, 3).is(9);
        s.raise(1, 3, 1).is(5);
        s.ask(1, 3).is(9);
        s.score(1, 4, 4).is(1);
        s.score(1, 5, 5).is(1);
        s.strike(1, 3).is(1);
        s.least(1).is(4);
        s.ask(1, 3).is(9);
        s.tick(9).is(1);
    }
}
