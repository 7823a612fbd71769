/** Terms, second paragraph: the commands and what they answer. */
public final class TermsCommandsTest {
    public static void main(String[] args) {
        wrongOnOtherKinds();
        wrongChangesNothing();
        putDropExpireRenameAreForAll();
        nothingIsForAll();
        unusedArgumentsAreFree();
        putIsWithoutADeadline();
        putReplacesEveryKind();
        addBeginsWithZero();
        addWrapsUpwards();
        addWrapsDownwards();
        addKeepsTheDeadline();
        dropOfSomethingIsOne();
        dropOfNothingIsZero();
        expireFromOneToHundred();
        expireWithZeroIsNone();
        expireCountsFromTheTime();
        expireReplacesADeadline();
        expireOfNothingIsZero();
        Probe.finish();
    }

    private static Probe oneOfEachKind() {
        Probe s = new Probe();
        s.put(1, 10).is(0);
        s.fill(2, 20, 21);
        s.score(3, 3, 30).is(1);
        s.score(3, 4, 40).is(1);
        for (int key = 1; key <= 3; key++) {
            s.expire(key, key).is(1);
        }
        return s;
    }

    private static boolean isForAll(int op) {
        return op == Probe.PUT || op == Probe.DROP || op == Probe.EXPIRE || op == Probe.RENAME;
    }

    private static int kindOf(int op) {
        return op == Probe.ADD ? Probe.NUMBER : op <= Probe.TAKE ? Probe.LIST : Probe.RANKING;
    }

    /** "they are WRONG ... on a key of a kind that they are not for"; here key 1 has kind 1, and so on. */
    private static void wrongOnOtherKinds() {
        Probe s = oneOfEachKind();
        for (int op = 0; op < 12; op++) {
            for (int key = 1; key <= 3; key++) {
                if (!isForAll(op) && kindOf(op) != key) {
                    s.command(0, op, key, 3, 5).is(Probe.WRONG);
                    s.command(0, op, key, 0, 0).is(Probe.WRONG);
                }
            }
        }
    }

    /** "(and change nothing)" */
    private static void wrongChangesNothing() {
        for (int op = 0; op < 12; op++) {
            for (int key = 1; key <= 3; key++) {
                if (!isForAll(op) && kindOf(op) != key) {
                    Probe s = oneOfEachKind();
                    s.command(0, op, key, 3, 5).is(Probe.WRONG);
                    isOneOfEachKind(s);
                }
            }
        }
    }

    private static void isOneOfEachKind(Probe s) {
        s.isNumber(1, 10);
        s.isList(2, 20, 21);
        s.isRanking(3, 3, 4);
        s.member(3, 3, 0).is(30);
        s.member(3, 4, 0).is(40);
        for (int key = 1; key <= 3; key++) {
            s.ask(key, 3).is(key);
        }
    }

    /** "(0, 2, 3, 11 are for all" */
    private static void putDropExpireRenameAreForAll() {
        for (int key = 1; key <= 3; key++) {
            oneOfEachKind().put(key, 5).is(0);
            oneOfEachKind().drop(key).is(1);
            oneOfEachKind().expire(key, 5).is(1);
            oneOfEachKind().rename(key, 7).is(1);
        }
    }

    /** "NOTHING is for all)" */
    private static void nothingIsForAll() {
        Probe s = new Probe();
        s.put(0, 5).is(0);
        s.add(1, 5).is(5);
        s.drop(2).is(0);
        s.expire(2, 5).is(0);
        s.front(3, 5).is(1);
        s.back(4, 5).is(1);
        s.take(2, 0).is(Probe.EMPTY);
        s.score(5, 5, 9).is(1);
        s.raise(6, 5, 9).is(9);
        s.strike(2, 5).is(0);
        s.least(2).is(Probe.EMPTY);
        s.rename(2, 7).is(0);
        s.isNothing(2);
        s.isNothing(7);
    }

    /** What a command does not name as its own has no range. */
    private static void unusedArgumentsAreFree() {
        int[] any = {Probe.LOW, -1, 16, 101, Probe.HIGH};
        for (int i : any) {
            Probe s = new Probe();
            s.command(0, Probe.PUT, 1, i, i).is(0);
            s.command(0, Probe.ADD, 1, 0, i).is(i);
            s.command(0, Probe.EXPIRE, 1, 5, i).is(1);
            s.command(0, Probe.RENAME, 1, 2, i).is(1);
            s.command(0, Probe.DROP, 2, i, i).is(1);
            s.command(0, Probe.FRONT, 3, i, i).is(1);
            s.command(0, Probe.BACK, 3, i, i).is(2);
            s.command(0, Probe.TAKE, 3, i, i).is(i);
            s.command(0, Probe.SCORE, 4, 5, i).is(1);
            s.command(0, Probe.RAISE, 4, 6, i).is(i);
            s.command(0, Probe.STRIKE, 4, 6, i).is(1);
            s.command(0, Probe.LEAST, 4, i, i).is(5);
        }
    }

    /** "PUT: a number a, without a deadline [0]" */
    private static void putIsWithoutADeadline() {
        Probe s = oneOfEachKind();
        for (int key = 1; key <= 3; key++) {
            s.put(key, 7).is(0);
            s.ask(key, 3).is(-1);
        }
        s.tick(50).is(0);
        s.isNumber(1, 7);
    }

    private static void putReplacesEveryKind() {
        Probe s = oneOfEachKind();
        for (int key = 0; key <= 3; key++) {
            s.put(key, 7 + key).is(0);
            s.isNumber(key, 7 + key);
            s.element(key, 0).is(Probe.NONE);
        }
        s.member(3, 3, 0).is(Probe.NONE);
    }

    /** "ADD: the number (0 if NOTHING) grows by a" */
    private static void addBeginsWithZero() {
        Probe s = new Probe();
        s.add(0, -4).is(-4);
        s.add(0, 1).is(-3);
        s.isNumber(0, -3);
        s.add(1, 0).is(0);
        s.isNumber(1, 0);
        s.put(2, 9).is(0);
        s.drop(2).is(1);
        s.add(2, 1).is(1);
    }

    /** "wrapping [it]" */
    private static void addWrapsUpwards() {
        Probe s = new Probe();
        s.put(0, Probe.HIGH).is(0);
        s.add(0, 1).is(Probe.LOW);
        s.isNumber(0, Probe.LOW);
        s.put(0, Probe.HIGH).is(0);
        s.add(0, Probe.HIGH).is(-2);
    }

    /** "wrapping [it]" */
    private static void addWrapsDownwards() {
        Probe s = new Probe();
        s.put(0, Probe.LOW).is(0);
        s.add(0, -1).is(Probe.HIGH);
        s.isNumber(0, Probe.HIGH);
        s.put(0, Probe.LOW).is(0);
        s.add(0, Probe.LOW).is(0);
        s.isNumber(0, 0);
    }

    /** Only PUT is "without a deadline". */
    private static void addKeepsTheDeadline() {
        Probe s = oneOfEachKind();
        s.expire(1, 9).is(1);
        s.add(1, 1).is(11);
        s.ask(1, 3).is(9);
    }

    /** "DROP: it is NOTHING [1" */
    private static void dropOfSomethingIsOne() {
        Probe s = oneOfEachKind();
        for (int key = 1; key <= 3; key++) {
            s.drop(key).is(1);
            s.isNothing(key);
        }
    }

    /** "0 if it was]" */
    private static void dropOfNothingIsZero() {
        Probe s = oneOfEachKind();
        s.drop(0).is(0);
        s.isNothing(0);
        s.drop(1).is(1);
        s.drop(1).is(0);
    }

    /** "EXPIRE (a 0..100)" */
    private static void expireFromOneToHundred() {
        Probe s = new Probe();
        s.put(0, 1).is(0);
        s.expire(0, 1).is(1);
        s.ask(0, 3).is(1);
        s.expire(0, 100).is(1);
        s.ask(0, 3).is(100);
        for (int a : Probe.outside(101)) {
            s.expire(0, a).is(Probe.REFUSED);
        }
        s.ask(0, 3).is(100);
        s.tick(50).is(0);
        s.tick(49).is(0);
        s.tick(1).is(1);
    }

    /** "or with 0 none [1": at the TIME 0 and later. */
    private static void expireWithZeroIsNone() {
        Probe s = new Probe();
        s.put(0, 1).is(0);
        for (int i = 0; i < 2; i++) {
            s.expire(0, 0).is(1);
            s.ask(0, 3).is(-1);
            s.expire(0, 5).is(1);
            s.expire(0, 0).is(1);
            s.ask(0, 3).is(-1);
            s.tick(0).is(0);
            s.tick(50).is(0);
            s.isNumber(0, 1);
        }
    }

    /** "its deadline is the TIME + a" */
    private static void expireCountsFromTheTime() {
        Probe s = new Probe();
        s.tick(30).is(0);
        s.put(0, 1).is(0);
        s.expire(0, 20).is(1);
        s.ask(0, 3).is(20);
        s.tick(19).is(0);
        s.ask(0, 3).is(1);
        s.tick(1).is(1);
        s.isNothing(0);
    }

    private static void expireReplacesADeadline() {
        Probe s = new Probe();
        s.put(0, 1).is(0);
        s.expire(0, 5).is(1);
        s.expire(0, 20).is(1);
        s.tick(5).is(0);
        s.ask(0, 3).is(15);
        s.expire(0, 2).is(1);
        s.tick(2).is(1);
    }

    /** "0 if it is NOTHING]" */
    private static void expireOfNothingIsZero() {
        Probe s = new Probe();
        s.expire(0, 5).is(0);
        s.expire(0, 0).is(0);
        s.isNothing(0);
        s.back(0, 1).is(1);
        s.ask(0, 3).is(-1);
        s.tick(5).is(0);
    }
}
