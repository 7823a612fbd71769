/** Terms, second paragraph: the commands on lists. */
public final class TermsListsTest {
    public static void main(String[] args) {
        frontAndBackAnswerHowManyThereAre();
        frontIsFullWithTwelve();
        backIsFullWithTwelve();
        afterTakingThereIsRoomAgain();
        takeWithZeroIsTheFirst();
        takeWithAnyOtherIsTheLast();
        takeOfNothingIsEmpty();
        listsKeepTheirDeadline();
        Probe.finish();
    }

    /** "4 FRONT, 5 BACK: a is put before or behind the list's elements [how many there are" */
    private static void frontAndBackAnswerHowManyThereAre() {
        Probe s = new Probe();
        s.front(1, 5).is(1);
        s.isList(1, 5);
        s.front(1, 6).is(2);
        s.isList(1, 6, 5);
        s.back(1, 7).is(3);
        s.isList(1, 6, 5, 7);
        s.front(1, 7).is(4);
        s.isList(1, 7, 6, 5, 7);
        s.back(2, 8).is(1);
        s.isList(2, 8);
    }

    /** "FULL with 12]" */
    private static void frontIsFullWithTwelve() {
        Probe s = new Probe();
        for (int i = 0; i < 12; i++) {
            s.front(1, i).is(i + 1);
        }
        s.front(1, 12).is(Probe.FULL);
        s.isList(1, 11, 10, 9, 8, 7, 6, 5, 4, 3, 2, 1, 0);
    }

    /** "FULL with 12]" */
    private static void backIsFullWithTwelve() {
        Probe s = new Probe();
        for (int i = 0; i < 12; i++) {
            s.back(1, i).is(i + 1);
        }
        s.back(1, 12).is(Probe.FULL);
        s.isList(1, 0, 1, 2, 3, 4, 5, 6, 7, 8, 9, 10, 11);
    }

    private static void afterTakingThereIsRoomAgain() {
        Probe s = new Probe();
        s.fillUp(7);
        s.take(7, 0).is(0);
        s.back(7, 12).is(12);
        s.isList(7, 1, 2, 3, 4, 5, 6, 7, 8, 9, 10, 11, 12);
        s.take(7, 1).is(12);
        s.front(7, 0).is(12);
        s.isList(7, 0, 1, 2, 3, 4, 5, 6, 7, 8, 9, 10, 11);
    }

    /** "TAKE: its first (a 0) ... element is taken out [that" */
    private static void takeWithZeroIsTheFirst() {
        Probe s = new Probe();
        s.fill(1, 5, 6, 7);
        s.take(1, 0).is(5);
        s.isList(1, 6, 7);
        s.take(1, 0).is(6);
        s.take(1, 0).is(7);
        s.isNothing(1);
    }

    /** "or last (other a) element" */
    private static void takeWithAnyOtherIsTheLast() {
        Probe s = new Probe();
        s.fill(1, 5, 6, 7, 8, 9);
        s.take(1, 1).is(9);
        s.take(1, -1).is(8);
        s.take(1, Probe.LOW).is(7);
        s.isList(1, 5, 6);
        s.take(1, Probe.HIGH).is(6);
        s.take(1, 2).is(5);
        s.isNothing(1);
    }

    /** "EMPTY if NOTHING]" */
    private static void takeOfNothingIsEmpty() {
        Probe s = new Probe();
        s.take(1, 0).is(Probe.EMPTY);
        s.take(1, 1).is(Probe.EMPTY);
        s.isNothing(1);
        s.back(1, 5).is(1);
        s.take(1, 0).is(5);
        s.take(1, 0).is(Probe.EMPTY);
        s.take(1, 1).is(Probe.EMPTY);
    }

    private static void listsKeepTheirDeadline() {
        Probe s = new Probe();
        s.fill(1, 5, 6, 7);
        s.expire(1, 9).is(1);
        s.back(1, 8).is(4);
        s.front(1, 4).is(5);
        s.take(1, 0).is(4);
        s.take(1, 1).is(8);
        s.listen(0, 1, 1, 0).is(5);
        s.ask(1, 3).is(9);
        s.tick(9).is(1);
    }
}
