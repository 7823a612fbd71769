/** Terms, second paragraph: RENAME. */
public final class TermsRenameTest {
    public static void main(String[] args) {
        renameTakesEveryKindAlong();
        renameTakesTheDeadlineAlong();
        renameTakesNoDeadlineAlong();
        renameReplacesEveryKind();
        renameOfNothingIsZero();
        renameOfAFullKey();
        Probe.finish();
    }

    private static Probe oneOfEachKind() {
        Probe s = new Probe();
        s.put(1, 10).is(0);
        s.fill(2, 20, 21);
        s.score(3, 3, 30).is(1);
        s.score(3, 4, 3).is(1);
        return s;
    }

    /** "RENAME: key a becomes what this one is ... and this one NOTHING [1" */
    private static void renameTakesEveryKindAlong() {
        Probe s = oneOfEachKind();
        s.rename(1, 7).is(1);
        s.rename(2, 1).is(1);
        s.rename(3, 0).is(1);
        s.isNumber(7, 10);
        s.isList(1, 20, 21);
        s.isRanking(0, 4, 3);
        s.member(0, 3, 0).is(30);
        s.member(0, 4, 0).is(3);
        s.isNothing(2);
        s.isNothing(3);
        s.back(0, 1).is(Probe.WRONG);
        s.back(2, 1).is(1);
    }

    /** "with its deadline" */
    private static void renameTakesTheDeadlineAlong() {
        Probe s = oneOfEachKind();
        s.expire(2, 9).is(1);
        s.tick(2).is(0);
        s.rename(2, 5).is(1);
        s.ask(5, 3).is(7);
        s.ask(2, 3).is(-1);
        s.tick(7).is(1);
        s.isNothing(5);
    }

    /** "with its deadline": one that has none leaves none to the other. */
    private static void renameTakesNoDeadlineAlong() {
        Probe s = oneOfEachKind();
        s.expire(1, 9).is(1);
        s.rename(2, 1).is(1);
        s.ask(1, 3).is(-1);
        s.tick(9).is(0);
        s.isList(1, 20, 21);
    }

    private static void renameReplacesEveryKind() {
        for (int from = 1; from <= 3; from++) {
            for (int to = 1; to <= 3; to++) {
                if (from != to) {
                    Probe s = oneOfEachKind();
                    s.rename(from, to).is(1);
                    s.ask(to, 0).is(from);
                    s.ask(to, 1).is(from == 1 ? 10 : 0);
                    s.ask(to, 2).is(from == 1 ? 0 : 2);
                    s.element(to, 0).is(from == 1 ? Probe.NONE : from == 2 ? 20 : 4);
                    s.member(to, 3, 0).is(from == 3 ? 30 : Probe.NONE);
                    s.isNothing(from);
                }
            }
        }
    }

    /** "0 if it is NOTHING]": and then key a stays what it is. */
    private static void renameOfNothingIsZero() {
        Probe s = oneOfEachKind();
        s.expire(2, 9).is(1);
        for (int key = 1; key <= 3; key++) {
            s.rename(0, key).is(0);
        }
        s.isNumber(1, 10);
        s.isList(2, 20, 21);
        s.ask(2, 3).is(9);
        s.isRanking(3, 4, 3);
        s.rename(0, 7).is(0);
        s.isNothing(7);
    }

    private static void renameOfAFullKey() {
        Probe s = new Probe();
        s.fillUp(7);
        s.rankUp(6);
        s.rename(7, 0).is(1);
        s.rename(6, 7).is(1);
        s.isList(0, 0, 1, 2, 3, 4, 5, 6, 7, 8, 9, 10, 11);
        s.isRanking(7, 0, 1, 2, 3, 4, 5, 6, 7, 8, 9, 10, 11);
        s.member(7, 11, 0).is(11);
        s.back(0, 12).is(Probe.FULL);
        s.score(7, 12, 0).is(Probe.FULL);
    }
}
