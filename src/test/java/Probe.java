/** A WaitingStore whose answers are compared with the ones that are due. */
final class Probe {
    static final int PUT = 0, ADD = 1, DROP = 2, EXPIRE = 3, FRONT = 4, BACK = 5, TAKE = 6,
            SCORE = 7, RAISE = 8, STRIKE = 9, LEAST = 10, RENAME = 11;
    static final int NOTHING = 0, NUMBER = 1, LIST = 2, RANKING = 3;
    static final int READY = 0, WAITING = 1, GATHERING = 2;
    static final long WRONG = 10000000001L, EMPTY = 10000000002L, FULL = 10000000003L,
            REFUSED = 10000000004L, QUEUED = 10000000005L, NONE = 10000000006L;
    static final int LOW = Integer.MIN_VALUE, HIGH = Integer.MAX_VALUE;

    private static final int CALLS = 512;

    private static int compared = 0;
    private static int wrong = 0;

    private final WaitingStore store = new WaitingStore();
    private int calls = 0;

    /** What a call answered, waiting to be compared. */
    static final class Answer {
        private final String call;
        final long got;

        Answer(String call, long got) {
            this.call = call;
            this.got = got;
        }

        @Override
        public String toString() {
            return call + " answered " + got;
        }

        void is(long want) {
            compare(got == want, call + " answered " + got + ", due is " + want);
        }

        void is(boolean want) {
            compare(got == (want ? 1 : 0), call + " answered " + (got == 1) + ", due is " + want);
        }
    }

    static void compare(boolean holds, String message) {
        compared++;
        if (!holds) {
            wrong++;
            System.out.println(testLine() + ": " + message);
        }
    }

    /** The line that main's own method had reached, which names the sentence that is tested. */
    private static String testLine() {
        String line = "";
        for (StackTraceElement e : new Throwable().getStackTrace()) {
            if (e.getMethodName().equals("main")) {
                break;
            }
            line = e.toString();
        }
        return line;
    }

    /** Ends the test, with exit code 1 if an answer was wrong. */
    static void finish() {
        System.out.println(compared + " answers compared, " + wrong + " wrong");
        if (wrong != 0 || compared == 0) {
            System.exit(1);
        }
    }

    /** Numbers of which none is in 0..bound - 1: next to both ends, and the farthest from them. */
    static int[] outside(int bound) {
        return new int[] {-1, bound, LOW, HIGH};
    }

    private Answer answer(String name, long got, int... arguments) {
        calls++;
        if (calls > CALLS) {
            compare(false, "an object is used for more than " + CALLS + " calls");
        }
        StringBuilder call = new StringBuilder(name + "(");
        for (int i = 0; i < arguments.length; i++) {
            call.append(i == 0 ? "" : ", ").append(arguments[i]);
        }
        return new Answer(call.append(")").toString(), got);
    }

    Answer command(int client, int op, int key, int a, int b) {
        return answer("command", store.command(client, op, key, a, b), client, op, key, a, b);
    }

    Answer listen(int client, int key, int other, int limit) {
        return answer("listen", store.listen(client, key, other, limit), client, key, other, limit);
    }

    Answer begin(int client) {
        return answer("begin", store.begin(client) ? 1 : 0, client);
    }

    Answer commit(int client) {
        return answer("commit", store.commit(client), client);
    }

    Answer cancel(int client) {
        return answer("cancel", store.cancel(client) ? 1 : 0, client);
    }

    Answer watch(int client, int key) {
        return answer("watch", store.watch(client, key) ? 1 : 0, client, key);
    }

    Answer result(int client, int k) {
        return answer("result", store.result(client, k), client, k);
    }

    Answer got(int client, int what) {
        return answer("got", store.got(client, what), client, what);
    }

    Answer tick(int n) {
        return answer("tick", store.tick(n), n);
    }

    void sync() {
        store.sync();
        answer("sync", 0);
    }

    Answer crash() {
        return answer("crash", store.crash());
    }

    void rewrite() {
        store.rewrite();
        answer("rewrite", 0);
    }

    Answer ask(int key, int what) {
        return answer("ask", store.ask(key, what), key, what);
    }

    Answer element(int key, int k) {
        return answer("element", store.element(key, k), key, k);
    }

    Answer member(int key, int m, int what) {
        return answer("member", store.member(key, m, what), key, m, what);
    }

    Answer between(int key, int least, int most) {
        return answer("between", store.between(key, least, most), key, least, most);
    }

    // The commands as client 3 does them, so that the others are free for what a test is about.

    Answer put(int key, int a) {
        return command(3, PUT, key, a, 0);
    }

    Answer add(int key, int a) {
        return command(3, ADD, key, a, 0);
    }

    Answer drop(int key) {
        return command(3, DROP, key, 0, 0);
    }

    Answer expire(int key, int a) {
        return command(3, EXPIRE, key, a, 0);
    }

    Answer front(int key, int a) {
        return command(3, FRONT, key, a, 0);
    }

    Answer back(int key, int a) {
        return command(3, BACK, key, a, 0);
    }

    Answer take(int key, int a) {
        return command(3, TAKE, key, a, 0);
    }

    Answer score(int key, int m, int b) {
        return command(3, SCORE, key, m, b);
    }

    Answer raise(int key, int m, int b) {
        return command(3, RAISE, key, m, b);
    }

    Answer strike(int key, int m) {
        return command(3, STRIKE, key, m, 0);
    }

    Answer least(int key) {
        return command(3, LEAST, key, 0, 0);
    }

    Answer rename(int key, int a) {
        return command(3, RENAME, key, a, 0);
    }

    /** Puts these elements behind those of a list. */
    void fill(int key, int... elements) {
        for (int element : elements) {
            back(key, element);
        }
    }

    /** Makes a list of the elements 0 to 11. */
    void fillUp(int key) {
        fill(key, 0, 1, 2, 3, 4, 5, 6, 7, 8, 9, 10, 11);
    }

    /** Makes a ranking of the members 0 to 11, which stand in this order. */
    void rankUp(int key) {
        for (int m = 0; m < 12; m++) {
            score(key, m, m);
        }
    }

    /** The key is NOTHING in all that can be asked of it. */
    void isNothing(int key) {
        ask(key, 0).is(NOTHING);
        ask(key, 1).is(0);
        ask(key, 2).is(0);
        ask(key, 3).is(-1);
        element(key, 0).is(NONE);
    }

    void isNumber(int key, int number) {
        ask(key, 0).is(NUMBER);
        ask(key, 1).is(number);
        ask(key, 2).is(0);
    }

    void isList(int key, int... elements) {
        ask(key, 0).is(LIST);
        holds(key, elements);
    }

    /** The key is a ranking of just these members, in this order. */
    void isRanking(int key, int... members) {
        ask(key, 0).is(RANKING);
        holds(key, members);
    }

    private void holds(int key, int... items) {
        ask(key, 1).is(0);
        ask(key, 2).is(items.length);
        for (int i = 0; i < items.length; i++) {
            element(key, i).is(items[i]);
        }
        element(key, items.length).is(NONE);
    }

    /** Whether a client is deceived: it begins and commits, and so watches nothing afterwards. */
    void deceived(int client, boolean want) {
        begin(client).is(true);
        commit(client).is(want ? -2 : 0);
    }
}
