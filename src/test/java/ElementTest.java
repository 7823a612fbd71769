/** Promise 15, and of promise 18 what element answers for other kinds. */
public final class ElementTest {
    public static void main(String[] args) {
        elementsOfAList();
        membersInTheRankingsOrder();
        theTwelfth();
        noSuchElementIsNone();
        noSuchMemberIsNone();
        whatWasTakenIsNone();
        neitherListNorRankingIsNone();
        noSuchKeyIsNone();
        Probe.finish();
    }

    /** "Element k of a list ... (0 first)" */
    private static void elementsOfAList() {
        Probe s = new Probe();
        s.fill(0, Probe.HIGH, 0, -1, Probe.LOW);
        s.element(0, 0).is(Probe.HIGH);
        s.element(0, 1).is(0);
        s.element(0, 2).is(-1);
        s.element(0, 3).is(Probe.LOW);
        s.front(0, 5).is(5);
        s.element(0, 0).is(5);
        s.element(0, 4).is(Probe.LOW);
    }

    /** "or the member that is number k in a ranking's order (0 first)" */
    private static void membersInTheRankingsOrder() {
        Probe s = new Probe();
        s.score(1, 9, 5).is(1);
        s.score(1, 3, 7).is(1);
        s.score(1, 2, 7).is(1);
        s.element(1, 0).is(9);
        s.element(1, 1).is(2);
        s.element(1, 2).is(3);
        s.score(1, 9, 8).is(0);
        s.element(1, 0).is(2);
        s.element(1, 2).is(9);
    }

    private static void theTwelfth() {
        Probe s = new Probe();
        s.fillUp(6);
        s.rankUp(7);
        s.element(6, 11).is(11);
        s.element(7, 11).is(11);
    }

    /** "NONE if there is none": of a list, and none of the next key's. */
    private static void noSuchElementIsNone() {
        Probe s = new Probe();
        s.fill(0, 1, 2);
        s.fillUp(1);
        s.fillUp(2);
        s.element(0, 2).is(Probe.NONE);
        for (int k : Probe.outside(12)) {
            s.element(0, k).is(Probe.NONE);
            s.element(1, k).is(Probe.NONE);
            s.element(2, k).is(Probe.NONE);
        }
    }

    /** "NONE if there is none": of a ranking. */
    private static void noSuchMemberIsNone() {
        Probe s = new Probe();
        s.score(0, 5, 50).is(1);
        s.rankUp(1);
        s.rankUp(2);
        s.element(0, 1).is(Probe.NONE);
        for (int k : Probe.outside(12)) {
            s.element(0, k).is(Probe.NONE);
            s.element(1, k).is(Probe.NONE);
            s.element(2, k).is(Probe.NONE);
        }
    }

    private static void whatWasTakenIsNone() {
        Probe s = new Probe();
        s.fill(0, 1, 2);
        s.take(0, 1).is(2);
        s.element(0, 1).is(Probe.NONE);
        s.score(1, 5, 50).is(1);
        s.score(1, 6, 60).is(1);
        s.strike(1, 6).is(1);
        s.element(1, 1).is(Probe.NONE);
        s.fill(2, 1, 2);
        s.drop(2).is(1);
        s.element(2, 0).is(Probe.NONE);
    }

    /** Promise 18: "element answer ... NONE for a key that is ... neither list nor ranking." */
    private static void neitherListNorRankingIsNone() {
        Probe s = new Probe();
        s.put(2, 4).is(0);
        s.fill(3, 30);
        s.put(3, 4).is(0);
        for (int k = 0; k < 2; k++) {
            s.element(1, k).is(Probe.NONE);
            s.element(2, k).is(Probe.NONE);
            s.element(3, k).is(Probe.NONE);
        }
    }

    private static void noSuchKeyIsNone() {
        Probe s = new Probe();
        s.fillUp(0);
        s.fillUp(7);
        s.sync();
        for (int key : Probe.outside(8)) {
            s.element(key, 0).is(Probe.NONE);
            s.element(key, 11).is(Probe.NONE);
        }
    }
}
