import java.util.ArrayDeque;
import java.util.ArrayList;
import java.util.Collections;
import java.util.Comparator;
import java.util.HashMap;
import java.util.List;
import java.util.Map;

/** The document once more, over the Java library and otherwise built, for runs that nobody wrote down. */
final class Model {
    private static final long WRONG = Probe.WRONG, EMPTY = Probe.EMPTY, FULL = Probe.FULL,
            REFUSED = Probe.REFUSED, QUEUED = Probe.QUEUED, NONE = Probe.NONE;

    /** What a key is: a number, a list or a ranking; values are copied before they are changed. */
    private static final class Value {
        Integer number;
        ArrayDeque<Integer> list;
        Map<Integer, Integer> ranking;
        Long deadline;

        Value copy() {
            Value copy = new Value();
            copy.number = number;
            copy.list = list == null ? null : new ArrayDeque<>(list);
            copy.ranking = ranking == null ? null : new HashMap<>(ranking);
            copy.deadline = deadline;
            return copy;
        }

        boolean isEmpty() {
            return list != null && list.isEmpty() || ranking != null && ranking.isEmpty();
        }

        List<Integer> order() {
            List<Integer> order = new ArrayList<>(ranking.keySet());
            Comparator<Integer> byScore = Comparator.comparing(ranking::get);
            order.sort(byScore.thenComparing(Comparator.naturalOrder()));
            return order;
        }
    }

    private static final class Client {
        List<int[]> gathered;
        List<Long> results = List.of();
        final Map<Integer, Integer> watched = new HashMap<>();
        Long taken;
        Integer takenFrom;
        Long end;
    }

    private Map<Integer, Value> values = new HashMap<>();
    private Map<Integer, Value> safe = new HashMap<>();
    private final int[] versions = new int[8];
    private Client[] clients = {new Client(), new Client(), new Client(), new Client()};
    private final Map<Integer, int[]> awaited = new HashMap<>();
    private final List<Integer> waiting = new ArrayList<>();
    private long time = 0;

    private static boolean in(int value, int bound) {
        return 0 <= value && value < bound;
    }

    private int stateOf(int client) {
        return waiting.contains(client) ? 1 : clients[client].gathered != null ? 2 : 0;
    }

    private int kindOf(int key) {
        Value value = values.get(key);
        return value == null ? 0 : value.number != null ? 1 : value.list != null ? 2 : 3;
    }

    long command(int client, int op, int key, int a, int b) {
        boolean fits = in(client, 4) && in(op, 12) && in(key, 8)
                && (op != 3 || in(a, 101))
                && (op < 7 || op > 9 || in(a, 16))
                && (op != 11 || in(a, 8) && a != key);
        if (!fits || stateOf(client) == 1) {
            return REFUSED;
        }
        List<int[]> gathered = clients[client].gathered;
        if (gathered == null) {
            long answer = perform(op, key, a, b);
            serve();
            return answer;
        }
        if (gathered.size() == 8) {
            return FULL;
        }
        gathered.add(new int[] {op, key, a, b});
        return QUEUED;
    }

    private long perform(int op, int key, int a, int b) {
        int kind = kindOf(key);
        int[] kinds = {0, 1, 0, 0, 2, 2, 2, 3, 3, 3, 3, 0};
        if (kinds[op] != 0 && kind != 0 && kind != kinds[op]) {
            return WRONG;
        }
        Value value = kind == 0 ? new Value() : values.get(key).copy();
        long answer = kinds[op] == 2 ? onList(value, op, a)
                : kinds[op] == 3 ? onRanking(value, op, a, b)
                : onAny(value, kind, op, key, a);
        boolean changed = answer != FULL && answer != EMPTY;
        changed &= !(op == 2 || op == 3 || op == 9 || op == 11) || answer == 1;
        if (op == 7 && answer == 0) {
            changed = values.get(key).ranking.get(a) != b;
        }
        if (changed) {
            store(key, op == 2 || op == 11 || value.isEmpty() ? null : value);
        }
        return answer;
    }

    private void store(int key, Value value) {
        versions[key]++;
        if (value == null) {
            values.remove(key);
        } else {
            values.put(key, value);
        }
    }

    private long onAny(Value value, int kind, int op, int key, int a) {
        switch (op) {
            case 0:
                value.list = null;
                value.ranking = null;
                value.deadline = null;
                value.number = a;
                return 0;
            case 1:
                value.number = kind == 0 ? a : value.number + a;
                return value.number;
            case 3:
                value.deadline = a == 0 ? null : Long.valueOf(time + a);
                return kind == 0 ? 0 : 1;
            case 11:
                if (kind != 0) {
                    store(a, value);
                }
                return kind == 0 ? 0 : 1;
            default:
                return kind == 0 ? 0 : 1;
        }
    }

    private static long onList(Value value, int op, int a) {
        if (value.list == null) {
            value.list = new ArrayDeque<>();
        }
        if (op == 6) {
            Integer taken = a == 0 ? value.list.pollFirst() : value.list.pollLast();
            return taken == null ? EMPTY : taken;
        }
        if (value.list.size() == 12) {
            return FULL;
        }
        if (op == 4) {
            value.list.addFirst(a);
        } else {
            value.list.addLast(a);
        }
        return value.list.size();
    }

    private static long onRanking(Value value, int op, int a, int b) {
        if (value.ranking == null) {
            value.ranking = new HashMap<>();
        }
        boolean isNew = !value.ranking.containsKey(a);
        if (op == 10) {
            if (value.ranking.isEmpty()) {
                return EMPTY;
            }
            int first = value.order().get(0);
            value.ranking.remove(first);
            return first;
        }
        if (op == 9) {
            value.ranking.remove(a);
            return isNew ? 0 : 1;
        }
        if (isNew && value.ranking.size() == 12) {
            return FULL;
        }
        if (op == 7) {
            value.ranking.put(a, b);
            return isNew ? 1 : 0;
        }
        return value.ranking.merge(a, b, Integer::sum);
    }

    private long take(int client, int key) {
        Value value = values.get(key).copy();
        int taken = value.list.removeFirst();
        store(key, value.isEmpty() ? null : value);
        clients[client].taken = (long) taken;
        clients[client].takenFrom = key;
        waiting.remove((Integer) client);
        return taken;
    }

    private void serve() {
        for (int key = 0; key < 8; key++) {
            // A list that is served changes no other key, so one way through the keys is enough.
            for (Integer client : List.copyOf(waiting)) {
                int[] both = awaited.get(client);
                if (kindOf(key) == 2 && (both[0] == key || both[1] == key)) {
                    take(client, key);
                }
            }
        }
    }

    long listen(int client, int key, int other, int limit) {
        if (!in(client, 4) || !in(key, 8) || !in(other, 8) || !in(limit, 51) || stateOf(client) != 0) {
            return REFUSED;
        }
        if (kindOf(key) % 2 == 1 || kindOf(other) % 2 == 1) {
            return WRONG;
        }
        if (kindOf(key) == 2 || kindOf(other) == 2) {
            return take(client, kindOf(key) == 2 ? key : other);
        }
        waiting.add(client);
        awaited.put(client, new int[] {key, other});
        clients[client].taken = null;
        clients[client].takenFrom = null;
        clients[client].end = limit == 0 ? null : Long.valueOf(time + limit);
        return NONE;
    }

    boolean begin(int client) {
        if (!in(client, 4) || stateOf(client) != 0) {
            return false;
        }
        clients[client].gathered = new ArrayList<>();
        return true;
    }

    int commit(int client) {
        if (!in(client, 4) || stateOf(client) != 2) {
            return -1;
        }
        Client c = clients[client];
        boolean deceived = c.watched.entrySet().stream().anyMatch(e -> versions[e.getKey()] != e.getValue());
        List<int[]> gathered = c.gathered;
        cancel(client);
        if (deceived) {
            return -2;
        }
        c.results = new ArrayList<>();
        for (int[] g : gathered) {
            c.results.add(perform(g[0], g[1], g[2], g[3]));
        }
        serve();
        return gathered.size();
    }

    boolean cancel(int client) {
        if (!in(client, 4) || stateOf(client) == 1) {
            return false;
        }
        clients[client].gathered = null;
        clients[client].watched.clear();
        return true;
    }

    boolean watch(int client, int key) {
        if (!in(client, 4) || !in(key, 8) || stateOf(client) != 0) {
            return false;
        }
        clients[client].watched.putIfAbsent(key, versions[key]);
        return true;
    }

    long result(int client, int k) {
        return in(client, 4) && in(k, clients[client].results.size()) ? clients[client].results.get(k) : NONE;
    }

    long got(int client, int what) {
        if (!in(client, 4) || !in(what, 4)) {
            return NONE;
        }
        Client c = clients[client];
        Long left = stateOf(client) == 1 && c.end != null ? Long.valueOf(c.end - time) : null;
        Long from = c.takenFrom == null ? null : Long.valueOf(c.takenFrom);
        Long[] all = {(long) stateOf(client), c.taken, from, left};
        return all[what] == null ? NONE : all[what];
    }

    private static boolean isOver(Long end, long time) {
        return end != null && end <= time;
    }

    int tick(int n) {
        if (!in(n, 51)) {
            return -1;
        }
        time += n;
        int expired = 0;
        for (Map.Entry<Integer, Value> e : new ArrayList<>(values.entrySet())) {
            if (isOver(e.getValue().deadline, time)) {
                store(e.getKey(), null);
                expired++;
            }
        }
        waiting.removeIf(client -> isOver(clients[client].end, time));
        return expired;
    }

    void sync() {
        safe = new HashMap<>(values);
    }

    int crash() {
        values = new HashMap<>(safe);
        values.values().removeIf(value -> isOver(value.deadline, time));
        clients = new Client[] {new Client(), new Client(), new Client(), new Client()};
        waiting.clear();
        return values.size();
    }

    int ask(int key, int what) {
        if (!in(key, 8) || !in(what, 4)) {
            return -1;
        }
        Value value = values.getOrDefault(key, new Value());
        int size = value.list != null ? value.list.size() : value.ranking != null ? value.ranking.size() : 0;
        int left = value.deadline == null ? -1 : (int) (value.deadline - time);
        return new int[] {kindOf(key), value.number == null ? 0 : value.number, size, left}[what];
    }

    long element(int key, int k) {
        int kind = in(key, 8) ? kindOf(key) : 0;
        List<Integer> all = kind == 2 ? new ArrayList<>(values.get(key).list)
                : kind == 3 ? values.get(key).order() : Collections.emptyList();
        return in(k, all.size()) ? all.get(k) : NONE;
    }

    long member(int key, int m, int what) {
        if (!in(key, 8) || kindOf(key) != 3 || !in(what, 2) || !values.get(key).ranking.containsKey(m)) {
            return NONE;
        }
        return what == 0 ? values.get(key).ranking.get(m) : values.get(key).order().indexOf(m);
    }

    int between(int key, int least, int most) {
        if (!in(key, 8) || kindOf(key) != 3) {
            return 0;
        }
        return (int) values.get(key).ranking.values().stream().filter(s -> s >= least && s <= most).count();
    }
}
