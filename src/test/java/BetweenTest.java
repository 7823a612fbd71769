/** Promise 17, and of promise 18 what between answers for other kinds. */
public final class BetweenTest {
    public static void main(String[] args) {
        bothEndsCount();
        theFarthestEnds();
        equalScoresCountEach();
        nothingBetween();
        leastAboveMost();
        allTwelve();
        whatIsStruckCountsNoMore();
        noRankingIsZero();
        noSuchKeyIsZero();
        Probe.finish();
    }

    private static Probe fiveMembers() {
        Probe s = new Probe();
        s.score(1, 15, Probe.LOW).is(1);
        s.score(1, 0, Probe.HIGH).is(1);
        s.score(1, 8, 4).is(1);
        s.score(1, 7, 4).is(1);
        s.score(1, 6, -4).is(1);
        return s;
    }

    /** "How many members of a ranking have scores from least to most." */
    private static void bothEndsCount() {
        Probe s = fiveMembers();
        s.between(1, -4, 4).is(3);
        s.between(1, -3, 4).is(2);
        s.between(1, -4, 3).is(1);
        s.between(1, -5, 5).is(3);
    }

    private static void theFarthestEnds() {
        Probe s = fiveMembers();
        s.between(1, Probe.LOW, Probe.HIGH).is(5);
        s.between(1, Probe.LOW + 1, Probe.HIGH).is(4);
        s.between(1, Probe.LOW, Probe.HIGH - 1).is(4);
        s.between(1, Probe.LOW, Probe.LOW).is(1);
        s.between(1, Probe.HIGH, Probe.HIGH).is(1);
    }

    private static void equalScoresCountEach() {
        Probe s = fiveMembers();
        s.between(1, 4, 4).is(2);
    }

    private static void nothingBetween() {
        Probe s = fiveMembers();
        s.between(1, -3, 3).is(0);
        s.between(1, 5, 5).is(0);
    }

    private static void leastAboveMost() {
        Probe s = fiveMembers();
        s.between(1, 4, -4).is(0);
        s.between(1, 5, 3).is(0);
        s.between(1, Probe.HIGH, Probe.LOW).is(0);
    }

    private static void allTwelve() {
        Probe s = new Probe();
        s.rankUp(7);
        s.between(7, 0, 11).is(12);
        s.between(7, 1, 10).is(10);
        s.between(7, 11, 11).is(1);
    }

    private static void whatIsStruckCountsNoMore() {
        Probe s = fiveMembers();
        s.strike(1, 8).is(1);
        s.between(1, 4, 4).is(1);
        s.score(1, 7, 5).is(0);
        s.between(1, 4, 4).is(0);
        s.between(1, 5, 5).is(1);
    }

    /** Promise 18: "between ... answer 0 ... for a key that is no ranking": though it was one. */
    private static void noRankingIsZero() {
        Probe s = fiveMembers();
        s.fill(0, 1, 2, 3);
        s.put(2, 0).is(0);
        s.rankUp(4);
        s.drop(4).is(1);
        s.fill(4, 1, 2, 3);
        for (int key = 0; key < 8; key++) {
            s.between(key, Probe.LOW, Probe.HIGH).is(key == 1 ? 5 : 0);
            s.between(key, 0, 3).is(0);
        }
    }

    private static void noSuchKeyIsZero() {
        Probe s = new Probe();
        s.rankUp(0);
        s.rankUp(7);
        s.sync();
        for (int key : Probe.outside(8)) {
            s.between(key, Probe.LOW, Probe.HIGH).is(0);
        }
    }
}
