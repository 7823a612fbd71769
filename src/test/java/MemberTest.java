/** Promise 16: member. */
public final class MemberTest {
    public static void main(String[] args) {
        itsScore();
        howManyAreBeforeIt();
        theFirstAndTheTwelfth();
        noMemberIsNone();
        noMemberAnyMoreIsNone();
        noSuchMemberIsNone();
        noRankingIsNone();
        noSuchKeyIsNone();
        noSuchWhatIsNone();
        Probe.finish();
    }

    private static Probe fourMembers() {
        Probe s = new Probe();
        s.score(1, 15, Probe.LOW).is(1);
        s.score(1, 0, Probe.HIGH).is(1);
        s.score(1, 8, 4).is(1);
        s.score(1, 7, 4).is(1);
        return s;
    }

    /** "Of a member of a ranking what 0: its score" */
    private static void itsScore() {
        Probe s = fourMembers();
        s.member(1, 15, 0).is(Probe.LOW);
        s.member(1, 7, 0).is(4);
        s.member(1, 8, 0).is(4);
        s.member(1, 0, 0).is(Probe.HIGH);
        s.raise(1, 15, -1).is(Probe.HIGH);
        s.member(1, 15, 0).is(Probe.HIGH);
    }

    /** "1: how many are before it in the order": of equal scores those that are less. */
    private static void howManyAreBeforeIt() {
        Probe s = fourMembers();
        s.member(1, 15, 1).is(0);
        s.member(1, 7, 1).is(1);
        s.member(1, 8, 1).is(2);
        s.member(1, 0, 1).is(3);
        s.raise(1, 15, -1).is(Probe.HIGH);
        s.member(1, 7, 1).is(0);
        s.member(1, 0, 1).is(2);
        s.member(1, 15, 1).is(3);
        s.strike(1, 7).is(1);
        s.member(1, 8, 1).is(0);
    }

    private static void theFirstAndTheTwelfth() {
        Probe s = new Probe();
        for (int m = 4; m < 16; m++) {
            s.score(7, m, -m).is(1);
        }
        s.member(7, 15, 1).is(0);
        s.member(7, 4, 1).is(11);
        s.member(7, 4, 0).is(-4);
    }

    /** "NONE if it is none." */
    private static void noMemberIsNone() {
        Probe s = fourMembers();
        s.member(1, 1, 0).is(Probe.NONE);
        s.member(1, 1, 1).is(Probe.NONE);
    }

    private static void noMemberAnyMoreIsNone() {
        Probe s = fourMembers();
        s.strike(1, 7).is(1);
        s.least(1).is(15);
        for (int what = 0; what < 2; what++) {
            s.member(1, 7, what).is(Probe.NONE);
            s.member(1, 15, what).is(Probe.NONE);
        }
        s.drop(1).is(1);
        for (int what = 0; what < 2; what++) {
            s.member(1, 8, what).is(Probe.NONE);
        }
    }

    private static void noSuchMemberIsNone() {
        Probe s = fourMembers();
        for (int m : Probe.outside(16)) {
            s.member(1, m, 0).is(Probe.NONE);
            s.member(1, m, 1).is(Probe.NONE);
        }
    }

    /** "Of a member of a ranking": elements of a list are none, though they be equal. */
    private static void noRankingIsNone() {
        Probe s = new Probe();
        s.fill(0, 0, 5);
        s.put(1, 5).is(0);
        for (int key = 0; key < 3; key++) {
            for (int what = 0; what < 2; what++) {
                s.member(key, 0, what).is(Probe.NONE);
                s.member(key, 5, what).is(Probe.NONE);
            }
        }
    }

    private static void noSuchKeyIsNone() {
        Probe s = new Probe();
        s.rankUp(0);
        s.rankUp(7);
        s.sync();
        for (int key : Probe.outside(8)) {
            s.member(key, 0, 0).is(Probe.NONE);
            s.member(key, 0, 1).is(Probe.NONE);
        }
    }

    /** The document names no other what; there is nothing that it could be. */
    private static void noSuchWhatIsNone() {
        Probe s = fourMembers();
        for (int what : Probe.outside(2)) {
            s.member(1, 8, what).is(Probe.NONE);
        }
    }
}
