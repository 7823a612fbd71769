/** Promise 14: ask. */
public final class AskTest {
    public static void main(String[] args) {
        theKind();
        theNumber();
        howManyElementsOrMembers();
        theTimeLeft();
        noDeadlineIsMinusOne();
        noSuchKeyIsMinusOne();
        noSuchWhatIsMinusOne();
        Probe.finish();
    }

    private static Probe oneOfEachKind() {
        Probe s = new Probe();
        s.put(1, -7).is(0);
        s.fill(2, 20, 21, 22);
        s.score(3, 3, 30).is(1);
        s.score(3, 4, 40).is(1);
        return s;
    }

    /** "Of a key what 0: its kind" */
    private static void theKind() {
        Probe s = oneOfEachKind();
        for (int key = 0; key < 4; key++) {
            s.ask(key, 0).is(key);
        }
        s.put(3, 1).is(0);
        s.ask(3, 0).is(Probe.NUMBER);
        s.drop(3).is(1);
        s.ask(3, 0).is(Probe.NOTHING);
    }

    /** "1: its number, 0 if it is none": also if it was one. */
    private static void theNumber() {
        Probe s = oneOfEachKind();
        s.ask(0, 1).is(0);
        s.ask(1, 1).is(-7);
        s.ask(2, 1).is(0);
        s.ask(3, 1).is(0);
        s.drop(1).is(1);
        s.ask(1, 1).is(0);
        s.back(1, 5).is(1);
        s.ask(1, 1).is(0);
        s.put(1, Probe.HIGH).is(0);
        s.rename(2, 1).is(1);
        s.ask(1, 1).is(0);
    }

    /** "2: how many elements or members it has": 0 to 12. */
    private static void howManyElementsOrMembers() {
        Probe s = oneOfEachKind();
        s.ask(0, 2).is(0);
        s.ask(1, 2).is(0);
        s.ask(2, 2).is(3);
        s.ask(3, 2).is(2);
        s.fillUp(6);
        s.ask(6, 2).is(12);
        s.rankUp(7);
        s.ask(7, 2).is(12);
        s.put(6, 1).is(0);
        s.ask(6, 2).is(0);
        s.drop(7).is(1);
        s.ask(7, 2).is(0);
    }

    /** "3: the time left to its deadline" */
    private static void theTimeLeft() {
        Probe s = new Probe();
        s.tick(20).is(0);
        s.fill(7, 1);
        s.expire(7, 30).is(1);
        s.ask(7, 3).is(30);
        s.tick(29).is(0);
        s.ask(7, 3).is(1);
        s.tick(1).is(1);
        s.ask(7, 3).is(-1);
    }

    /** "-1 if it has none" */
    private static void noDeadlineIsMinusOne() {
        Probe s = oneOfEachKind();
        s.tick(7).is(0);
        for (int key = 0; key < 8; key++) {
            s.ask(key, 3).is(-1);
        }
    }

    /** "-1 if there is no such key" */
    private static void noSuchKeyIsMinusOne() {
        Probe s = oneOfEachKind();
        s.put(0, 5).is(0);
        s.put(7, 5).is(0);
        s.sync();
        for (int key : Probe.outside(8)) {
            for (int what = 0; what < 4; what++) {
                s.ask(key, what).is(-1);
            }
        }
    }

    /** "or what" */
    private static void noSuchWhatIsMinusOne() {
        Probe s = oneOfEachKind();
        for (int key = 0; key < 4; key++) {
            for (int what : Probe.outside(4)) {
                s.ask(key, what).is(-1);
            }
        }
    }
}
