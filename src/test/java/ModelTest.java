import java.util.ArrayList;
import java.util.List;
import java.util.Random;

/** All promises: long runs of calls, the same each time, answered as Model answers them. */
public final class ModelTest {
    private static final int RUNS = 4000, STEPS = 150;

    private final Random random;
    private final int keys;
    private final WaitingStore store = new WaitingStore();
    private final Model model = new Model();
    private final List<String> calls = new ArrayList<>();
    private boolean wrong = false;

    private ModelTest(int seed) {
        random = new Random(seed);
        // With few keys calls meet on the same key, with all of them keys are told apart.
        keys = 1 + random.nextInt(8);
    }

    public static void main(String[] args) {
        int wrongRuns = 0;
        for (int seed = 0; seed < RUNS && wrongRuns < 3; seed++) {
            ModelTest run = new ModelTest(seed);
            for (int step = 0; step < STEPS && !run.wrong; step++) {
                run.step();
            }
            run.lookAtAll();
            if (run.wrong) {
                wrongRuns++;
                System.out.println("run " + seed + ": " + String.join("; ", run.calls));
            }
        }
        System.out.println(RUNS + " runs, " + wrongRuns + " wrong");
        if (wrongRuns != 0) {
            System.exit(1);
        }
    }

    private void due(String call, long got, long want) {
        if (wrong) {
            return;
        }
        calls.add(call + " = " + got);
        if (got != want) {
            wrong = true;
            calls.add("due is " + want);
        }
    }

    private int strange(int usual) {
        int[] odd = {-1, usual + 1, 8, 16, 51, 101, Integer.MIN_VALUE, Integer.MAX_VALUE};
        return random.nextInt(60) == 0 ? odd[random.nextInt(odd.length)] : usual;
    }

    private int client() {
        return strange(random.nextInt(4));
    }

    private int key() {
        return strange(random.nextInt(keys));
    }

    private int value() {
        return random.nextInt(10) == 0 ? random.nextInt() : random.nextInt(7) - 3;
    }

    private void step() {
        int kind = random.nextInt(100);
        if (kind < 50) {
            command();
        } else if (kind < 62) {
            int c = client(), k = key(), o = key(), l = strange(random.nextInt(8));
            due("listen(" + c + ", " + k + ", " + o + ", " + l + ")", store.listen(c, k, o, l), model.listen(c, k, o, l));
        } else if (kind < 88) {
            transaction(kind);
        } else if (kind < 95) {
            int n = strange(random.nextInt(4));
            due("tick(" + n + ")", store.tick(n), model.tick(n));
        } else {
            log(kind);
        }
        look();
    }

    private void command() {
        int[] ops = {0, 1, 2, 3, 4, 4, 5, 5, 6, 7, 7, 7, 8, 8, 9, 10, 11, 11};
        int c = client(), op = strange(ops[random.nextInt(ops.length)]), k = key(), b = value();
        int a = op == 11 ? key() : op >= 7 ? strange(random.nextInt(16)) : op == 3 ? strange(random.nextInt(9)) : value();
        String call = "command(" + c + ", " + op + ", " + k + ", " + a + ", " + b + ")";
        due(call, store.command(c, op, k, a, b), model.command(c, op, k, a, b));
    }

    private void transaction(int kind) {
        int c = client(), k = key();
        if (kind < 70) {
            due("watch(" + c + ", " + k + ")", store.watch(c, k) ? 1 : 0, model.watch(c, k) ? 1 : 0);
        } else if (kind < 77) {
            due("begin(" + c + ")", store.begin(c) ? 1 : 0, model.begin(c) ? 1 : 0);
        } else if (kind < 85) {
            due("commit(" + c + ")", store.commit(c), model.commit(c));
        } else {
            due("cancel(" + c + ")", store.cancel(c) ? 1 : 0, model.cancel(c) ? 1 : 0);
        }
    }

    private void log(int kind) {
        if (kind < 97) {
            store.sync();
            model.sync();
            calls.add("sync()");
        } else if (kind < 99) {
            store.rewrite();
            calls.add("rewrite()");
        } else {
            due("crash()", store.crash(), model.crash());
        }
    }

    private void look() {
        int k = key(), c = client(), m = strange(random.nextInt(16)), what = strange(random.nextInt(4));
        switch (random.nextInt(5)) {
            case 0: due("got(" + c + ", " + what + ")", store.got(c, what), model.got(c, what)); break;
            case 1: due("ask(" + k + ", " + what + ")", store.ask(k, what), model.ask(k, what)); break;
            case 2: due("result(" + c + ", " + m + ")", store.result(c, m), model.result(c, m)); break;
            case 3: due("member(" + k + ", " + m + ", " + what + ")", store.member(k, m, what), model.member(k, m, what)); break;
            default: between(k, value(), value());
        }
    }

    private void between(int k, int least, int most) {
        String call = "between(" + k + ", " + least + ", " + most + ")";
        due(call, store.between(k, least, most), model.between(k, least, most));
    }

    /** At most 512 calls are promised for, so this looks at what a run of STEPS leaves room for. */
    private void lookAtAll() {
        for (int k = 0; k < 8; k++) {
            for (int what = 0; what < 4; what++) {
                due("ask(" + k + ", " + what + ")", store.ask(k, what), model.ask(k, what));
            }
            for (int i = 0; i < 13; i++) {
                due("element(" + k + ", " + i + ")", store.element(k, i), model.element(k, i));
            }
        }
        for (int c = 0; c < 4; c++) {
            for (int what = 0; what < 4; what++) {
                due("got(" + c + ", " + what + ")", store.got(c, what), model.got(c, what));
            }
        }
    }
}
