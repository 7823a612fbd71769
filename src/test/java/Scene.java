import java.util.ArrayList;
import java.util.List;

/** A store where much is going on, to tell whether a call changed any of it. */
final class Scene {
    /** Client 0 is READY, 1 GATHERING, 2 WAITING and 3 READY and deceived; there are keys of each kind. */
    static Probe make(int gathered) {
        Probe s = new Probe();
        s.put(0, 7);
        s.expire(0, 40);
        s.fill(5, 1, 2);
        s.sync();
        s.tick(3);
        s.drop(5);
        s.fillUp(1);
        s.rankUp(2);
        s.expire(2, 30);
        s.fill(3, 30, 31);
        s.score(6, 6, 60);
        s.begin(3);
        s.command(3, Probe.ADD, 0, 1, 0);
        s.commit(3);
        s.listen(3, 3, 3, 0);
        s.watch(3, 6);
        s.raise(6, 6, 1);
        for (int key = 0; key < 8; key++) {
            s.watch(0, key);
        }
        s.watch(1, 3);
        s.begin(1);
        for (int i = 0; i < gathered; i++) {
            s.command(1, Probe.BACK, 4, 40 + i, 0);
        }
        s.listen(2, 4, 5, 20);
        return s;
    }

    /** All that can be asked, and then what becomes of that which cannot be asked. */
    static List<String> shows(Probe s) {
        List<String> all = new ArrayList<>();
        lookAtKeys(s, all);
        for (int client = 0; client < 4; client++) {
            for (int what = 0; what < 4; what++) {
                all.add(s.got(client, what).toString());
            }
            all.add(s.result(client, 0).toString());
            all.add(s.result(client, 1).toString());
        }
        for (int client = 0; client < 4; client++) {
            all.add(s.begin(client).toString());
            all.add(s.commit(client).toString());
            all.add(s.result(client, 0).toString());
            all.add(s.result(client, 7).toString());
        }
        all.add(s.got(2, 1).toString());
        all.add(s.ask(4, 2).toString());
        all.add(s.tick(27).toString());
        all.add(s.tick(3).toString());
        all.add(s.tick(6).toString());
        all.add(s.crash().toString());
        lookAtKeys(s, all);
        all.add(s.tick(1).toString());
        return all;
    }

    private static void lookAtKeys(Probe s, List<String> all) {
        for (int key = 0; key < 8; key++) {
            for (int what = 0; what < 4; what++) {
                all.add(s.ask(key, what).toString());
            }
            int size = (int) s.ask(key, 2).got;
            for (int k = 0; k < size; k++) {
                Probe.Answer element = s.element(key, k);
                all.add(element.toString());
                all.add(s.member(key, (int) element.got, 0).toString());
            }
        }
    }

    /** Compares what a store shows with what one shows that was only made. */
    static void same(Probe s, int gathered) {
        List<String> got = shows(s);
        List<String> due = shows(make(gathered));
        for (int i = 0; i < Math.max(got.size(), due.size()); i++) {
            String g = i < got.size() ? got.get(i) : "no more";
            String d = i < due.size() ? due.get(i) : "no more";
            if (!g.equals(d)) {
                Probe.compare(false, g + ", due is " + d);
                return;
            }
        }
        Probe.compare(true, "");
    }
}
