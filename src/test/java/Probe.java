/** A WaitingStore whose answers are compared with the ones that are due. */
final class Probe {
    static final int PUT = 0, ADD = 1, DROP = 2, EXPIRE = 3, FRONT = 4, BACK = 5, TAKE = 6,
            SCORE = 7, RAISE = 8, STRIKE = 9, LEAST = 10, RENAME = 11;
    static final int NOTHING = 0, NUMBER = 1, LIST = 2, RANKING = 3;
    static final int READY = 0, WAITING = 1, GATHERING = 2;
    static final long WRONG = 10000000001L, EMPTY = 10000000002L, FULL = 10000000003L,
            REFUSED = 10000000004L, QUEUED = 10000000005L, NONE = 10000000006L;
    static final int LOW = Integer.MIN_VALUE, HIGH = Integer.MAX_VALUE;

    private static int compared = 0;
    private static int wrong = 0;

    private final WaitingStore store = new WaitingStore();

    /** What a call answered, waiting to be compared. */
    static final class Answer {
        private final String call;
        private final long got;

        Answer(String call, long got) {
            this.call = call;
            this.got = got;
        }

        void is(long want) {
            compared++;
            if (got != want) {
                wrong++;
                StackTraceElement[] stack = new Throwable().getStackTrace();
                System.out.println(stack[1] + ": " + call + " answered " + got + ", due is " + want);
            }
        }

        void is(boolean want) {
            compared++;
            if (got != (want ? 1 : 0)) {
                wrong++;
                StackTraceElement[] stack = new Throwable().getStackTrace();
                System.out.println(stack[1] + ": " + call + " answered " + (got == 1) + ", due is " + want);
            }
        }
    }

    /** Ends the test, with exit code 1 if an answer was wrong. */
    static void finish() {
        System.out.println(compared + " answers compared, " + wrong + " wrong");
        if (wrong != 0 || compared == 0) {
            System.exit(1);
        }
    }

    static Answer answer(String call, long got) {
        return new Answer(call, got);
    }

    private static Answer answer(String name, long got, int... arguments) {
        StringBuilder call = new StringBuilder(name + "(");
        for (int i = 0; i < arguments.length; i++) {
            call.append(i == 0 ? "" : ", ").append(arguments[i]);
        }
        return new Answer(call.append(")").toString(), got);
    }

    Answer command(int client, int op, int key, int a, int b) {
        return answer("command", store.command(client, op, key, a, b), client, op, key, a, b);
    }

    Answer listen(int client, int key, int other, int limit) {
        return answer("listen", store.listen(client, key, other, limit), client, key, other, limit);
    }

    Answer begin(int client) {
        return answer("begin", store.begin(client) ? 1 : 0, client);
    }

    Answer commit(int client) {
        return answer("commit", store.commit(client), client);
    }

    Answer cancel(int client) {
        return answer("cancel", store.cancel(client) ? 1 : 0, client);
    }

    Answer watch(int client, int key) {
        return answer("watch", store.watch(client, key) ? 1 : 0, client, key);
    }

    Answer result(int client, int k) {
        return answer("result", store.result(client, k), client, k);
    }

    Answer got(int client, int what) {
        return answer("got", store.got(client, what), client, what);
    }

    Answer tick(int n) {
        return answer("tick", store.tick(n), n);
    }

    void sync() {
        store.sync();
    }

    Answer crash() {
        return answer("crash", store.crash());
    }

    void rewrite() {
        store.rewrite();
    }

    Answer ask(int key, int what) {
        return answer("ask", store.ask(key, what), key, what);
    }

    Answer element(int key, int k) {
        return answer("element", store.element(key, k), key, k);
    }

    Answer member(int key, int m, int what) {
        return answer("member", store.member(key, m, what), key, m, what);
    }

    Answer between(int key, int least, int most) {
        return answer("between", store.between(key, least, most), key, least, most);
    }

    /** The key is a list of just these elements, or a ranking of just these members in this order. */
    void holds(int key, int... items) {
        ask(key, 2).is(items.length);
        for (int i = 0; i < items.length; i++) {
            element(key, i).is(items[i]);
        }
        element(key, items.length).is(NONE);
    }

    /** A list of these elements, put there one after the other by client 3. */
    void fill(int key, int... elements) {
        for (int element : elements) {
            store.command(3, BACK, key, element, 0);
        }
    }

    /** Whether client 2 is deceived: it begins and commits, and so watches nothing afterwards. */
    void deceived(boolean want) {
        begin(2).is(true);
        commit(2).is(want ? -2 : 0);
    }
}
