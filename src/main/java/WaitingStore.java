/** The store that DOC.md describes: its promises are named by number where a method keeps one. */
public final class WaitingStore {
    public static final long WRONG = 10000000001L, EMPTY = 10000000002L, FULL = 10000000003L,
            REFUSED = 10000000004L, QUEUED = 10000000005L, NONE = 10000000006L;

    private static final int KEYS = 8, MEMBERS = 16, CLIENTS = 4;
    private static final int ROOM = 12;
    private static final int NOTHING = 0, NUMBER = 1, LIST = 2, RANKING = 3;
    private static final int READY = 0, WAITING = 1, GATHERING = 2;
    private static final int PUT = 0, ADD = 1, DROP = 2, EXPIRE = 3, FRONT = 4, BACK = 5, TAKE = 6,
            SCORE = 7, RAISE = 8, STRIKE = 9, LEAST = 10, RENAME = 11;
    private static final int LONGEST_EXPIRE = 100, LONGEST_LISTEN = 50, LONGEST_TICK = 50;
    private static final int LAST_TIME = 1000000000;
    private static final int UNWATCHED = 0, WATCHED = 1, CHANGED = 2;
    private static final int QUEUE = 8;
    // Every deadline and every end of waiting is later than the time at which it was set, so 0 is free.
    private static final int NEVER = 0;

    // Slots 0..7 are the keys; slot 8 + k is what key k was at the latest sync.
    private static final int SLOTS = 16;
    private static final int PLACES = SLOTS * ROOM;
    private static final int PAIRS = CLIENTS * KEYS;
    private static final int QUEUES = CLIENTS * QUEUE;

    private final int[] kind = new int[SLOTS];
    private final int[] number = new int[SLOTS];
    private final int[] size = new int[SLOTS];
    private final int[] deadline = new int[SLOTS];
    // A list's elements, or a ranking's members, which always stand in the ranking's order.
    private final int[] items = new int[PLACES];
    private final int[] scores = new int[PLACES];

    private final int[] state = new int[CLIENTS];
    private final int[] waitKey = new int[CLIENTS];
    private final int[] waitOther = new int[CLIENTS];
    private final int[] waitEnd = new int[CLIENTS];
    private final long[] waitTurn = new long[CLIENTS];
    private final long[] tookElement = new long[CLIENTS];
    private final long[] tookKey = new long[CLIENTS];
    private final int[] watching = new int[PAIRS];

    private final int[] queued = new int[CLIENTS];
    private final int[] queuedOp = new int[QUEUES];
    private final int[] queuedKey = new int[QUEUES];
    private final int[] queuedA = new int[QUEUES];
    private final int[] queuedB = new int[QUEUES];
    private final int[] resultCount = new int[CLIENTS];
    private final long[] results = new long[QUEUES];

    private int time = 0;
    // Clients may begin to wait at the same time, so turns and not times tell who has waited longest.
    private long turns = 0;

    /** Promise 1. */
    public WaitingStore() {
        resetClients();
    }

    /** Promise 2. */
    public long command(int client, int op, int key, int a, int b) {
        if (!isClient(client) || state[client] == WAITING || !isCommand(op, key, a)) {
            return REFUSED;
        }
        if (state[client] == GATHERING) {
            return enqueue(client, op, key, a, b);
        }
        long answer = perform(op, key, a, b);
        serveWaiting();
        return answer;
    }

    /** Promise 3. */
    public long listen(int client, int key, int other, int limit) {
        if (!isReady(client) || !isKey(key) || !isKey(other) || limit < 0 || limit > LONGEST_LISTEN) {
            return REFUSED;
        }
        if (isNoPlaceToListen(key) || isNoPlaceToListen(other)) {
            return WRONG;
        }
        if (kind[key] == LIST) {
            return takeFirst(client, key);
        }
        if (kind[other] == LIST) {
            return takeFirst(client, other);
        }
        startWaiting(client, key, other, limit);
        return NONE;
    }

    /** Promise 4. */
    public boolean begin(int client) {
        if (!isReady(client)) {
            return false;
        }
        state[client] = GATHERING;
        return true;
    }

    /** Promise 5. */
    public int commit(int client) {
        if (!isClient(client) || state[client] != GATHERING) {
            return -1;
        }
        int count = queued[client];
        boolean deceived = isDeceived(client);
        release(client);
        if (deceived) {
            return -2;
        }
        for (int i = 0; i < count; i++) {
            int at = client * QUEUE + i;
            results[at] = perform(queuedOp[at], queuedKey[at], queuedA[at], queuedB[at]);
        }
        resultCount[client] = count;
        serveWaiting();
        return count;
    }

    /** Promise 6. */
    public boolean cancel(int client) {
        if (!isClient(client) || state[client] == WAITING) {
            return false;
        }
        release(client);
        return true;
    }

    /** Promise 7. */
    public boolean watch(int client, int key) {
        if (!isReady(client) || !isKey(key)) {
            return false;
        }
        int pair = client * KEYS + key;
        // Watching once more must not forget a change that was seen already.
        if (watching[pair] == UNWATCHED) {
            watching[pair] = WATCHED;
        }
        return true;
    }

    /** Promise 8. */
    public long result(int client, int k) {
        if (!isClient(client) || k < 0 || k >= resultCount[client]) {
            return NONE;
        }
        return results[client * QUEUE + k];
    }

    /** Promise 9. */
    public long got(int client, int what) {
        if (!isClient(client)) {
            return NONE;
        }
        switch (what) {
            case 0: return state[client];
            case 1: return tookElement[client];
            case 2: return tookKey[client];
            case 3: return hasEnd(client) ? waitEnd[client] - time : NONE;
            default: return NONE;
        }
    }

    /** Promise 10. */
    public int tick(int n) {
        if (n < 0 || n > LONGEST_TICK || time > LAST_TIME - n) {
            return -1;
        }
        time += n;
        int expired = expireKeys();
        endWaiting();
        return expired;
    }

    /** Promise 11. */
    public void sync() {
        for (int key = 0; key < KEYS; key++) {
            copySlot(key, KEYS + key);
        }
    }

    /** Promise 12. */
    public int crash() {
        int left = 0;
        for (int key = 0; key < KEYS; key++) {
            copySlot(KEYS + key, key);
            if (isExpired(key)) {
                clearSlot(key);
            }
            if (kind[key] != NOTHING) {
                left++;
            }
        }
        resetClients();
        return left;
    }

    /** Promise 13: what is safe is held as a copy of the keys, so there is no log to write anew. */
    public void rewrite() {
    }

    /** Promise 14. */
    public int ask(int key, int what) {
        if (!isKey(key)) {
            return -1;
        }
        switch (what) {
            case 0: return kind[key];
            case 1: return number[key];
            case 2: return size[key];
            case 3: return deadline[key] == NEVER ? -1 : deadline[key] - time;
            default: return -1;
        }
    }

    /** Promise 15. */
    public long element(int key, int k) {
        if (!isKey(key) || k < 0 || k >= size[key]) {
            return NONE;
        }
        return items[key * ROOM + k];
    }

    /** Promise 16. */
    public long member(int key, int m, int what) {
        if (!isKey(key) || kind[key] != RANKING) {
            return NONE;
        }
        int at = placeOf(key, m);
        if (at < 0) {
            return NONE;
        }
        switch (what) {
            case 0: return scores[key * ROOM + at];
            case 1: return at;
            default: return NONE;
        }
    }

    /** Promise 17. */
    public int between(int key, int least, int most) {
        if (!isKey(key) || kind[key] != RANKING) {
            return 0;
        }
        int count = 0;
        int members = size[key];
        for (int i = 0; i < members; i++) {
            int score = scores[key * ROOM + i];
            if (score >= least && score <= most) {
                count++;
            }
        }
        return count;
    }

    private static boolean isClient(int client) {
        return client >= 0 && client < CLIENTS;
    }

    private static boolean isKey(int key) {
        return key >= 0 && key < KEYS;
    }

    private static boolean isCommand(int op, int key, int a) {
        if (op < PUT || op > RENAME || !isKey(key)) {
            return false;
        }
        switch (op) {
            case EXPIRE: return a >= 0 && a <= LONGEST_EXPIRE;
            case SCORE:
            case RAISE:
            case STRIKE: return a >= 0 && a < MEMBERS;
            case RENAME: return isKey(a) && a != key;
            default: return true;
        }
    }

    private boolean isReady(int client) {
        return isClient(client) && state[client] == READY;
    }

    private boolean isNoPlaceToListen(int key) {
        return kind[key] == NUMBER || kind[key] == RANKING;
    }

    private boolean hasEnd(int client) {
        return state[client] == WAITING && waitEnd[client] != NEVER;
    }

    private boolean isExpired(int key) {
        return deadline[key] != NEVER && deadline[key] <= time;
    }

    private boolean isDeceived(int client) {
        for (int key = 0; key < KEYS; key++) {
            if (watching[client * KEYS + key] == CHANGED) {
                return true;
            }
        }
        return false;
    }

    private void markChanged(int key) {
        for (int client = 0; client < CLIENTS; client++) {
            int pair = client * KEYS + key;
            if (watching[pair] == WATCHED) {
                watching[pair] = CHANGED;
            }
        }
    }

    private long enqueue(int client, int op, int key, int a, int b) {
        if (queued[client] >= QUEUE) {
            return FULL;
        }
        int at = client * QUEUE + queued[client];
        queuedOp[at] = op;
        queuedKey[at] = key;
        queuedA[at] = a;
        queuedB[at] = b;
        queued[client]++;
        return QUEUED;
    }

    private void release(int client) {
        state[client] = READY;
        queued[client] = 0;
        for (int key = 0; key < KEYS; key++) {
            watching[client * KEYS + key] = UNWATCHED;
        }
    }

    private void resetClients() {
        for (int client = 0; client < CLIENTS; client++) {
            release(client);
            resultCount[client] = 0;
            forgetTaken(client);
        }
    }

    private void forgetTaken(int client) {
        tookElement[client] = NONE;
        tookKey[client] = NONE;
    }

    private void startWaiting(int client, int key, int other, int limit) {
        forgetTaken(client);
        state[client] = WAITING;
        waitKey[client] = key;
        waitOther[client] = other;
        waitEnd[client] = limit == 0 ? NEVER : time + limit;
        waitTurn[client] = turns;
        turns++;
    }

    private void endWaiting() {
        for (int client = 0; client < CLIENTS; client++) {
            if (hasEnd(client) && waitEnd[client] <= time) {
                state[client] = READY;
            }
        }
    }

    private int expireKeys() {
        int expired = 0;
        for (int key = 0; key < KEYS; key++) {
            if (isExpired(key)) {
                clearSlot(key);
                markChanged(key);
                expired++;
            }
        }
        return expired;
    }

    private void serveWaiting() {
        // Each round makes one client READY, so there are no more rounds than clients.
        for (int round = 0; round < CLIENTS; round++) {
            int key = leastAwaitedList();
            int client = key < 0 ? -1 : longestWaiting(key);
            if (client < 0) {
                return;
            }
            takeFirst(client, key);
        }
    }

    private int leastAwaitedList() {
        for (int key = 0; key < KEYS; key++) {
            if (kind[key] == LIST && longestWaiting(key) >= 0) {
                return key;
            }
        }
        return -1;
    }

    private int longestWaiting(int key) {
        int longest = -1;
        for (int client = 0; client < CLIENTS; client++) {
            boolean waits = state[client] == WAITING && (waitKey[client] == key || waitOther[client] == key);
            if (waits && (longest < 0 || waitTurn[client] < waitTurn[longest])) {
                longest = client;
            }
        }
        return longest;
    }

    private long takeFirst(int client, int key) {
        int taken = takeOut(key, 0);
        tookElement[client] = taken;
        tookKey[client] = key;
        state[client] = READY;
        return taken;
    }

    private static int kindFor(int op) {
        if (op == ADD) {
            return NUMBER;
        }
        if (op >= FRONT && op <= TAKE) {
            return LIST;
        }
        if (op >= SCORE && op <= LEAST) {
            return RANKING;
        }
        return NOTHING;
    }

    private boolean suits(int op, int key) {
        int wanted = kindFor(op);
        return wanted == NOTHING || kind[key] == NOTHING || kind[key] == wanted;
    }

    private long perform(int op, int key, int a, int b) {
        if (!suits(op, key)) {
            return WRONG;
        }
        switch (op) {
            case PUT: return putNumber(key, a);
            case ADD: return addNumber(key, a);
            case DROP: return dropKey(key);
            case EXPIRE: return setDeadline(key, a);
            case FRONT: return putElement(key, 0, a);
            case BACK: return putElement(key, size[key], a);
            case TAKE: return a == 0 ? takeFront(key) : takeBack(key);
            case SCORE: return setScore(key, a, b);
            case RAISE: return raiseScore(key, a, b);
            case STRIKE: return strikeMember(key, a);
            case LEAST: return takeFront(key);
            default: return renameKey(key, a);
        }
    }

    private long putNumber(int key, int a) {
        clearSlot(key);
        kind[key] = NUMBER;
        number[key] = a;
        markChanged(key);
        return 0;
    }

    private long addNumber(int key, int a) {
        kind[key] = NUMBER;
        number[key] += a;
        markChanged(key);
        return number[key];
    }

    private long dropKey(int key) {
        if (kind[key] == NOTHING) {
            return 0;
        }
        clearSlot(key);
        markChanged(key);
        return 1;
    }

    private long setDeadline(int key, int a) {
        if (kind[key] == NOTHING) {
            return 0;
        }
        deadline[key] = a == 0 ? NEVER : time + a;
        markChanged(key);
        return 1;
    }

    private long putElement(int key, int at, int a) {
        if (size[key] >= ROOM) {
            return FULL;
        }
        kind[key] = LIST;
        openPlace(key, at);
        items[key * ROOM + at] = a;
        markChanged(key);
        return size[key];
    }

    private long takeFront(int key) {
        return kind[key] == NOTHING ? EMPTY : takeOut(key, 0);
    }

    private long takeBack(int key) {
        return kind[key] == NOTHING ? EMPTY : takeOut(key, size[key] - 1);
    }

    private long setScore(int key, int m, int score) {
        int at = placeOf(key, m);
        if (at < 0 && size[key] >= ROOM) {
            return FULL;
        }
        if (at < 0) {
            seatMember(key, m, at, score);
            return 1;
        }
        if (scores[key * ROOM + at] != score) {
            seatMember(key, m, at, score);
        }
        return 0;
    }

    private long raiseScore(int key, int m, int b) {
        int at = placeOf(key, m);
        if (at < 0 && size[key] >= ROOM) {
            return FULL;
        }
        int raised = at < 0 ? b : scores[key * ROOM + at] + b;
        seatMember(key, m, at, raised);
        return raised;
    }

    private long strikeMember(int key, int m) {
        int at = placeOf(key, m);
        if (at < 0) {
            return 0;
        }
        takeOut(key, at);
        return 1;
    }

    private long renameKey(int key, int a) {
        if (kind[key] == NOTHING) {
            return 0;
        }
        copySlot(key, a);
        clearSlot(key);
        markChanged(key);
        markChanged(a);
        return 1;
    }

    private int placeOf(int key, int m) {
        int members = size[key];
        for (int i = 0; i < members; i++) {
            if (items[key * ROOM + i] == m) {
                return i;
            }
        }
        return -1;
    }

    /** Puts member m, which stands at place old (below 0: nowhere), where its score belongs. */
    private void seatMember(int key, int m, int old, int score) {
        if (old >= 0) {
            closePlace(key, old);
        }
        kind[key] = RANKING;
        int at = placeFor(key, m, score);
        openPlace(key, at);
        items[key * ROOM + at] = m;
        scores[key * ROOM + at] = score;
        markChanged(key);
    }

    private int placeFor(int key, int m, int score) {
        int members = size[key];
        for (int i = 0; i < members; i++) {
            int place = key * ROOM + i;
            if (scores[place] > score || (scores[place] == score && items[place] > m)) {
                return i;
            }
        }
        return members;
    }

    private int takeOut(int key, int at) {
        int taken = items[key * ROOM + at];
        closePlace(key, at);
        if (size[key] == 0) {
            clearSlot(key);
        }
        markChanged(key);
        return taken;
    }

    private void openPlace(int key, int at) {
        for (int i = size[key]; i > at; i--) {
            int place = key * ROOM + i;
            items[place] = items[place - 1];
            scores[place] = scores[place - 1];
        }
        size[key]++;
    }

    private void closePlace(int key, int at) {
        int last = size[key] - 1;
        for (int i = at; i < last; i++) {
            int place = key * ROOM + i;
            items[place] = items[place + 1];
            scores[place] = scores[place + 1];
        }
        size[key] = last;
    }

    private void clearSlot(int slot) {
        kind[slot] = NOTHING;
        number[slot] = 0;
        size[slot] = 0;
        deadline[slot] = NEVER;
    }

    private void copySlot(int from, int to) {
        kind[to] = kind[from];
        number[to] = number[from];
        size[to] = size[from];
        deadline[to] = deadline[from];
        for (int i = 0; i < ROOM; i++) {
            items[to * ROOM + i] = items[from * ROOM + i];
            scores[to * ROOM + i] = scores[from * ROOM + i];
        }
    }
}
