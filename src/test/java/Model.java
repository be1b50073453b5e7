import java.util.ArrayDeque;
import java.util.ArrayList;
import java.util.Deque;
import java.util.HashMap;
import java.util.List;
import java.util.Map;
import java.util.TreeMap;
import java.util.TreeSet;

/** The document told a second time, with the library's collections, for ModelTest to compare with. */
final class Model {
    static final class Mail {
        final int kind, number, detail;
        final List<Integer> acts;

        Mail(int kind, int number, int detail, List<Integer> acts) {
            this.kind = kind;
            this.number = number;
            this.detail = detail;
            this.acts = new ArrayList<>(acts);
        }
    }

    static final class Peer {
        int id, state, task, view, promise, stamp, done;
        Integer flushCameFrom;
        TreeSet<Integer> members = new TreeSet<>(), toBe = new TreeSet<>(), suspects = new TreeSet<>();
        List<Integer> acts = new ArrayList<>();
        List<Integer> stack = new ArrayList<>();
        Map<Integer, Integer> told = new HashMap<>();
        TreeMap<Integer, Mail> flushed = new TreeMap<>();
        TreeSet<Integer> synced = new TreeSet<>();

        boolean blocked() { return promise != view; }

        boolean leads() { return members.last() == id; }

        TreeSet<Integer> others(TreeSet<Integer> set) {
            TreeSet<Integer> rest = new TreeSet<>(set);
            rest.remove(id);
            return rest;
        }

        TreeSet<Integer> trusted() {
            TreeSet<Integer> rest = new TreeSet<>(members);
            rest.removeAll(suspects);
            return rest;
        }
    }

    private final int n;
    private final List<Peer> peers = new ArrayList<>();
    private final Map<Integer, Deque<Mail>> channels = new HashMap<>();
    private final int[] counts = new int[5];
    private int inFlight;

    Model(int n) {
        this.n = n < 2 || n > 7 ? 3 : n;
        for (int i = 0; i < this.n; i++) {
            Peer p = new Peer();
            p.id = i;
            for (int j = 0; j < this.n; j++) {
                p.members.add(j);
                p.told.put(j, 0);
                channels.put(10 * i + j, new ArrayDeque<>());
            }
            peers.add(p);
        }
    }

    private boolean unknown(int node) { return node < 0 || node >= n; }

    private boolean most(int many) { return many > n / 2.0; }

    private static int bits(TreeSet<Integer> set) {
        int bits = 0;
        for (int i : set) {
            bits += 1 << i;
        }
        return bits;
    }

    private TreeSet<Integer> set(int bits) {
        TreeSet<Integer> set = new TreeSet<>();
        for (int i = 0; i < n; i++) {
            if ((bits >> i) % 2 == 1) {
                set.add(i);
            }
        }
        return set;
    }

    private void mail(Peer from, int to, int kind, int number, int detail, List<Integer> acts) {
        counts[0]++;
        if (inFlight == 500) {
            counts[1]++;
        } else {
            inFlight++;
            channels.get(10 * from.id + to).addLast(new Mail(kind, number, detail, acts));
        }
    }

    int submit(int node, int act) {
        if (unknown(node)) {
            return -1;
        }
        int c = Math.floorMod(act, 8);
        int k = Math.floorDiv(act, 8);
        boolean known = c == 0 ? k >= -1000 && k <= 1000 : c <= 5 && k == 0;
        if (!known) {
            return -1;
        }
        Peer p = peers.get(node);
        if (p.state != 0) {
            return 0;
        }
        if (p.blocked()) {
            return 2;
        }
        if (!p.leads()) {
            mail(p, p.members.last(), 1, 0, 0, List.of(act));
            return 1;
        }
        if (p.acts.size() == 60) {
            return 3;
        }
        added(p, act);
        return 1;
    }

    private void added(Peer p, int act) {
        p.acts.add(act);
        for (int m : p.others(p.members)) {
            mail(p, m, 2, p.view, p.acts.size() - 1, List.of(act));
        }
        lookAtWhatMostHold(p);
    }

    private void lookAtWhatMostHold(Peer p) {
        p.told.put(p.id, p.acts.size());
        int greatest = 0;
        for (int k = 0; k <= 60; k++) {
            int many = 0;
            for (int m : p.members) {
                many += p.told.get(m) >= k ? 1 : 0;
            }
            if (most(many)) {
                greatest = k;
            }
        }
        if (greatest > p.done) {
            carryOut(p, greatest);
            for (int m : p.others(p.members)) {
                mail(p, m, 4, p.view, greatest, List.of());
            }
        }
    }

    private void carryOut(Peer p, int many) {
        while (p.done < many && p.done < p.acts.size()) {
            run(p.stack, p.acts.get(p.done));
            p.done++;
            counts[2]++;
        }
    }

    private static void run(List<Integer> s, int act) {
        int last = s.size() - 1;
        if (act % 8 == 0) {
            if (s.size() < 20) {
                s.add(act / 8);
            }
        } else if (act == 1 && last >= 1) {
            s.set(last - 1, s.get(last - 1) + s.get(last));
            s.remove(last);
        } else if (act == 2 && last >= 1) {
            s.set(last - 1, s.get(last - 1) * s.get(last));
            s.remove(last);
        } else if (act == 3 && last >= 0 && s.size() < 20) {
            s.add(s.get(last));
        } else if (act == 4 && last >= 0) {
            s.remove(last);
        } else if (act == 5 && last >= 1) {
            s.add(s.remove(last - 1));
        }
    }

    int deliver(int from, int to) {
        if (unknown(from) || unknown(to)) {
            return -1;
        }
        Mail m = channels.get(10 * from + to).pollFirst();
        if (m == null) {
            return 0;
        }
        inFlight--;
        Peer p = peers.get(to);
        if (p.state != 0) {
            counts[1]++;
            return 20 + m.kind;
        }
        comes(p, from, m);
        return m.kind;
    }

    private void comes(Peer p, int from, Mail m) {
        boolean inView = m.number == p.view && !p.blocked();
        if (m.kind == 1) {
            if (p.leads() && !p.blocked() && p.acts.size() < 60) {
                added(p, m.acts.get(0));
            } else {
                counts[1]++;
            }
        } else if (m.kind == 2 && inView && p.acts.size() == m.detail) {
            p.acts.add(m.acts.get(0));
            mail(p, from, 3, m.number, p.acts.size(), List.of());
        } else if (m.kind == 3 && inView && p.leads()) {
            p.told.merge(from, m.detail, Math::max);
            lookAtWhatMostHold(p);
        } else if (m.kind == 4 && inView) {
            carryOut(p, m.detail);
        } else if (m.kind == 5 && from < p.id) {
            mail(p, from, 6, 0, 0, List.of());
            if (p.task == 0) {
                ask(p);
            }
        } else if (m.kind == 6 && p.task == 1) {
            p.task = 2;
        } else if (m.kind == 7 && m.number > p.promise) {
            p.promise = m.number;
            p.flushCameFrom = from;
            p.task = 0;
            mail(p, from, 8, m.number, p.stamp, p.acts);
        } else if (m.kind == 8 && p.task == 3 && m.number == p.promise) {
            p.flushed.put(from, m);
            flushedByAll(p);
        } else if (m.kind == 9 && m.number == p.promise) {
            p.acts = new ArrayList<>(m.acts);
            p.stamp = m.number;
            mail(p, from, 10, m.number, 0, List.of());
        } else if (m.kind == 10 && p.task == 4 && m.number == p.promise) {
            p.synced.add(from);
            syncedByAll(p);
        } else if (m.kind == 11 && m.number == p.promise) {
            begin(p, m.number, set(m.detail));
        } else if (m.kind == 12) {
            p.state = 2;
        }
    }

    private void flushedByAll(Peer p) {
        if (!p.flushed.keySet().containsAll(p.toBe)) {
            return;
        }
        Mail best = null;
        for (Mail m : p.flushed.values()) {
            if (best == null || m.detail > best.detail
                    || m.detail == best.detail && m.acts.size() > best.acts.size()) {
                best = m;
            }
        }
        p.acts = new ArrayList<>(best.acts);
        p.stamp = p.promise;
        p.task = 4;
        p.synced = new TreeSet<>();
        for (int m : p.others(p.toBe)) {
            mail(p, m, 9, p.promise, 0, p.acts);
        }
        syncedByAll(p);
    }

    private void syncedByAll(Peer p) {
        if (!p.synced.containsAll(p.others(p.toBe))) {
            return;
        }
        for (int m : p.others(p.toBe)) {
            mail(p, m, 11, p.promise, bits(p.toBe), List.of());
        }
        for (int m : p.members) {
            if (!p.toBe.contains(m)) {
                mail(p, m, 12, 0, 0, List.of());
            }
        }
        begin(p, p.promise, p.toBe);
    }

    private void begin(Peer p, int number, TreeSet<Integer> members) {
        p.view = number;
        p.members = new TreeSet<>(members);
        carryOut(p, p.acts.size());
        p.task = 0;
        counts[3]++;
        for (int m = 0; m < n; m++) {
            p.told.put(m, p.acts.size());
        }
    }

    private void ask(Peer p) {
        p.task = 1;
        TreeSet<Integer> above = new TreeSet<>(p.trusted().tailSet(p.id, false));
        for (int m : above) {
            mail(p, m, 5, 0, 0, List.of());
        }
        if (above.isEmpty()) {
            flush(p);
        }
    }

    private void flush(Peer p) {
        TreeSet<Integer> toBe = p.trusted();
        if (!most(toBe.size())) {
            p.task = 0;
            return;
        }
        p.toBe = toBe;
        do {
            p.promise++;
        } while (p.promise % n != p.id);
        p.task = 3;
        counts[4]++;
        for (int m : p.others(toBe)) {
            mail(p, m, 7, p.promise, bits(toBe), List.of());
        }
        p.flushed = new TreeMap<>();
        p.flushed.put(p.id, new Mail(8, p.promise, p.stamp, p.acts));
        flushedByAll(p);
    }

    int suspect(int node, int peer) {
        if (unknown(node) || unknown(peer)) {
            return -1;
        }
        Peer p = peers.get(node);
        if (p.state != 0 || node == peer || !p.suspects.add(peer)) {
            return 0;
        }
        if (p.task >= 3 && p.toBe.contains(peer)) {
            flush(p);
        } else if (!p.blocked() && p.leads() && p.members.contains(peer)) {
            flush(p);
        } else if (p.task == 0 && (p.members.last() == peer || p.flushCameFrom != null && p.flushCameFrom == peer)) {
            ask(p);
        }
        return 1;
    }

    boolean crash(int node) {
        if (unknown(node) || peers.get(node).state != 0) {
            return false;
        }
        peers.get(node).state = 1;
        return true;
    }

    int timeout(int node) {
        if (unknown(node)) {
            return -1;
        }
        Peer p = peers.get(node);
        if (p.state != 0 || p.task == 0) {
            return 0;
        }
        if (p.task == 2) {
            ask(p);
        } else {
            flush(p);
        }
        return 1;
    }

    int node(int node, int what) {
        if (unknown(node) || what < 0 || what > 11) {
            return -1;
        }
        Peer p = peers.get(node);
        return List.of(p.state, p.task, p.view, bits(p.members), p.members.last(), p.promise, bits(p.suspects),
            p.acts.size(), p.done, p.stamp, p.blocked() ? 1 : 0, p.task >= 3 ? bits(p.toBe) : 0).get(what);
    }

    int held(int node, int i) {
        boolean there = !unknown(node) && i >= 0 && i < peers.get(node).acts.size();
        return there ? peers.get(node).acts.get(i) : -100001;
    }

    int depth(int node) {
        return unknown(node) ? -1 : peers.get(node).stack.size();
    }

    int top(int node, int i) {
        if (unknown(node) || i < 0 || i >= peers.get(node).stack.size()) {
            return 0;
        }
        List<Integer> stack = peers.get(node).stack;
        return stack.get(stack.size() - 1 - i);
    }

    int flying(int from, int to) {
        if (from == -1) {
            return inFlight;
        }
        return unknown(from) || unknown(to) ? -1 : channels.get(10 * from + to).size();
    }

    int letter(int from, int to, int what) {
        if (unknown(from) || unknown(to) || what < 0 || what > 3) {
            return -1;
        }
        Mail m = channels.get(10 * from + to).peekFirst();
        return m == null ? -1 : List.of(m.kind, m.number, m.detail, m.acts.size()).get(what);
    }

    int count(int what) {
        return what < 0 || what > 4 ? -1 : counts[what];
    }
}
