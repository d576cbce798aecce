import java.util.ArrayDeque;
import java.util.ArrayList;
import java.util.Comparator;
import java.util.Deque;
import java.util.List;
import java.util.TreeMap;

/**
 * The document once more, written slowly and with the Java library: trees of linked places,
 * blocks sent one by one, harm found by letting the member fail. It checks no arguments.
 */
final class Model {

    static final int NONE = -1;
    static final int SOURCE = 100;

    static final class Peer {
        final int number;
        int bound;
        int preferred;
        boolean failed;
        int notice = NONE;
        int got;
        int had;
        int missed;
        final Peer[] parents = new Peer[4];

        Peer(int number) {
            this.number = number;
        }
    }

    static final class World {
        final Peer source = new Peer(SOURCE);
        final TreeMap<Integer, Peer> peers = new TreeMap<>();
        int time = 0;
        int delay = 3;
        int most = 2;
        final int[] counts = new int[8];

        World copy() {
            World copy = new World();
            copy.time = time;
            copy.delay = delay;
            copy.most = most;
            System.arraycopy(counts, 0, copy.counts, 0, 8);
            for (Peer peer : peers.values()) {
                Peer twin = new Peer(peer.number);
                twin.bound = peer.bound;
                twin.preferred = peer.preferred;
                twin.failed = peer.failed;
                twin.notice = peer.notice;
                twin.got = peer.got;
                twin.had = peer.had;
                twin.missed = peer.missed;
                copy.peers.put(peer.number, twin);
            }
            for (Peer peer : peers.values()) {
                for (int s = 0; s < 4; s++) {
                    Peer parent = peer.parents[s];
                    copy.peers.get(peer.number).parents[s] =
                            parent == null ? null : parent == source ? copy.source : copy.peers.get(parent.number);
                }
            }
            return copy;
        }
    }

    World w = new World();
    final Deque<World> undos = new ArrayDeque<>();

    private void save() {
        undos.addLast(w.copy());
        if (undos.size() > 4) {
            undos.removeFirst();
        }
    }

    private Peer at(int number) {
        return number == SOURCE ? w.source : w.peers.get(number);
    }

    boolean has(int number) {
        return w.peers.containsKey(number);
    }

    boolean isFailed(int number) {
        return w.peers.get(number).failed;
    }

    // ---- trees

    private List<Peer> children(Peer place, int s) {
        List<Peer> found = new ArrayList<>();
        for (Peer peer : w.peers.values()) {
            if (peer.parents[s] == place) {
                found.add(peer);
            }
        }
        return found;
    }

    private int allChildren(Peer place) {
        int all = 0;
        for (int s = 0; s < 4; s++) {
            all += children(place, s).size();
        }
        return all;
    }

    private boolean elsewhere(Peer place, int s) {
        return allChildren(place) > children(place, s).size();
    }

    private int depth(Peer peer, int s) {
        if (peer == w.source) {
            return 0;
        }
        if (peer.parents[s] == null) {
            return NONE;
        }
        int above = depth(peer.parents[s], s);
        return above == NONE ? NONE : above + 1;
    }

    private List<Peer> subtree(Peer top, int s) {
        List<Peer> found = new ArrayList<>();
        found.add(top);
        for (Peer child : children(top, s)) {
            found.addAll(subtree(child, s));
        }
        return found;
    }

    private boolean room(Peer place, int s) {
        if (place == w.source) {
            return children(place, s).size() < w.most;
        }
        return depth(place, s) != NONE && allChildren(place) < place.bound && !elsewhere(place, s);
    }

    private boolean inner(Peer peer, int s) {
        return peer.bound > 0 && !elsewhere(peer, s);
    }

    private Comparator<Peer> rank(int s) {
        return Comparator.<Peer>comparingInt(p -> p.preferred == s ? 0 : 1)
                .thenComparingInt(p -> -p.bound)
                .thenComparingInt(p -> p.number);
    }

    private void attach(Peer x, Peer a, int s) {
        if (room(a, s)) {
            x.parents[s] = a;
            return;
        }
        List<Peer> ranked = children(a, s);
        ranked.sort(rank(s));
        Peer last = ranked.isEmpty() ? null : ranked.get(ranked.size() - 1);
        if (last != null && rank(s).compare(x, last) < 0 && inner(x, s)) {
            x.parents[s] = a;
            last.parents[s] = null;
            w.counts[6]++;
            attach(last, x, s);
            return;
        }
        for (Peer child : ranked) {
            if (inner(child, s)) {
                attach(x, child, s);
                return;
            }
        }
        List<Peer> below = subtree(x, s);
        Peer best = null;
        for (Peer peer : w.peers.values()) {
            if (room(peer, s) && !below.contains(peer)
                    && (best == null || depth(peer, s) < depth(best, s))) {
                best = peer;
            }
        }
        if (best != null) {
            x.parents[s] = best;
            w.counts[7]++;
        }
    }

    private void attachAll() {
        for (int s = 0; s < 4; s++) {
            for (int number = 0; number < 32; number++) {
                Peer peer = w.peers.get(number);
                if (peer != null && peer.parents[s] == null) {
                    attach(peer, w.source, s);
                }
            }
        }
    }

    private void cut(Peer place, int s, int most) {
        List<Peer> ranked = children(place, s);
        ranked.sort(rank(s));
        while (ranked.size() > most) {
            ranked.remove(ranked.size() - 1).parents[s] = null;
        }
    }

    private void remove(Peer peer) {
        for (int s = 0; s < 4; s++) {
            cut(peer, s, 0);
        }
        w.peers.remove(peer.number);
        attachAll();
    }

    // ---- blocks

    private boolean gets(Peer peer, int s) {
        if (peer == w.source) {
            return true;
        }
        return !peer.failed && peer.parents[s] != null && gets(peer.parents[s], s);
    }

    private int pieces(Peer peer) {
        int got = 0;
        for (int s = 0; s < 4; s++) {
            got += gets(peer, s) ? 1 : 0;
        }
        return got;
    }

    private int block() {
        int missed = 0;
        w.counts[1]++;
        for (Peer peer : w.peers.values()) {
            int got = pieces(peer);
            peer.got += got;
            w.counts[2] += got;
            if (got >= 3) {
                peer.had++;
                w.counts[3]++;
            } else if (!peer.failed) {
                peer.missed++;
                w.counts[4]++;
                missed++;
            }
        }
        return missed;
    }

    // ---- the face

    int join(int number, int bound, int preferred) {
        save();
        Peer peer = new Peer(number);
        peer.bound = bound;
        peer.preferred = preferred;
        w.peers.put(number, peer);
        attachAll();
        int connected = 0;
        for (int s = 0; s < 4; s++) {
            connected += depth(peer, s) == NONE ? 0 : 1;
        }
        return connected;
    }

    int leave(int number) {
        save();
        int had = allChildren(at(number));
        remove(at(number));
        return had;
    }

    int fail(int number) {
        save();
        at(number).failed = true;
        at(number).notice = w.time + w.delay;
        return at(number).notice;
    }

    int setBound(int number, int bound) {
        save();
        Peer peer = at(number);
        int previous = peer.bound;
        peer.bound = bound;
        for (int s = 0; s < 4; s++) {
            cut(peer, s, bound);
        }
        attachAll();
        return previous;
    }

    int setSource(int most) {
        save();
        int previous = w.most;
        w.most = most;
        for (int s = 0; s < 4; s++) {
            cut(w.source, s, most);
        }
        attachAll();
        return previous;
    }

    int setDelay(int delay) {
        save();
        int previous = w.delay;
        w.delay = delay;
        return previous;
    }

    int repair() {
        save();
        attachAll();
        int left = 0;
        for (int s = 0; s < 4; s++) {
            left += stripe(s, 1);
        }
        return left;
    }

    int rejoin(int number, int s) {
        save();
        at(number).parents[s] = null;
        attach(at(number), w.source, s);
        return parent(number, s);
    }

    int tick(int ticks) {
        save();
        int missed = 0;
        for (int i = 0; i < ticks; i++) {
            w.time++;
            for (Peer peer : new ArrayList<>(w.peers.values())) {
                if (peer.failed && peer.notice == w.time) {
                    remove(peer);
                    w.counts[5]++;
                }
            }
            missed += block();
        }
        return missed;
    }

    int time() {
        return w.time;
    }

    int member(int number, int what) {
        Peer peer = w.peers.get(number);
        if (peer == null) {
            return 0;
        }
        int where = NONE;
        for (int s = 0; s < 4; s++) {
            where = children(peer, s).isEmpty() ? where : s;
        }
        int[] values = {1, peer.bound, peer.preferred, peer.failed ? 1 : 0, peer.notice,
            allChildren(peer), where, peer.got, peer.had, peer.missed};
        return values[what];
    }

    int parent(int number, int s) {
        Peer parent = at(number).parents[s];
        return parent == null ? NONE : parent.number;
    }

    int depth(int number, int s) {
        return depth(at(number), s);
    }

    int child(int number, int s, int index) {
        List<Peer> found = children(at(number), s);
        return index < found.size() ? found.get(index).number : NONE;
    }

    int subtree(int number, int s) {
        return subtree(at(number), s).size();
    }

    boolean hasRoom(int number, int s) {
        return room(at(number), s);
    }

    boolean ranksBefore(int first, int second, int s) {
        return rank(s).compare(at(first), at(second)) < 0;
    }

    int harm(int number) {
        Peer peer = at(number);
        if (peer.failed) {
            return 0;
        }
        TreeMap<Integer, Integer> before = new TreeMap<>();
        for (Peer other : w.peers.values()) {
            before.put(other.number, pieces(other));
        }
        peer.failed = true;
        int harmed = 0;
        for (Peer other : w.peers.values()) {
            if (other != peer && !other.failed && pieces(other) < before.get(other.number)) {
                harmed++;
            }
        }
        peer.failed = false;
        return harmed;
    }

    int pieces(int number) {
        return pieces(at(number));
    }

    int stripe(int s, int what) {
        int[] values = new int[6];
        values[3] = children(w.source, s).size();
        for (Peer peer : w.peers.values()) {
            values[0] += depth(peer, s) == NONE ? 0 : 1;
            values[1] += peer.parents[s] == null ? 1 : 0;
            values[2] = Math.max(values[2], depth(peer, s));
            values[4] += room(peer, s) ? 1 : 0;
            values[5] += children(peer, s).isEmpty() ? 0 : 1;
        }
        return values[what];
    }

    int count(int what) {
        return what == 0 ? w.peers.size() : w.counts[what];
    }

    int undo() {
        w = undos.removeLast();
        return undos.size();
    }

    long digest() {
        List<Long> values = new ArrayList<>();
        values.add((long) undos.size());
        values.add((long) w.time);
        values.add((long) w.most);
        values.add((long) w.delay);
        for (int number = 0; number < 32; number++) {
            for (int what = 0; what < 10; what++) {
                values.add((long) member(number, what));
            }
            if (has(number)) {
                values.add((long) harm(number));
                values.add((long) pieces(number));
                for (int s = 0; s < 4; s++) {
                    values.add((long) parent(number, s));
                    values.add((long) depth(number, s));
                    values.add((long) subtree(number, s));
                    values.add(hasRoom(number, s) ? 1L : 0L);
                }
            }
        }
        for (int s = 0; s < 4; s++) {
            for (int what = 0; what < 6; what++) {
                values.add((long) stripe(s, what));
            }
        }
        for (int what = 0; what < 8; what++) {
            values.add((long) count(what));
        }
        long h = 12560;
        for (long v : values) {
            h = 31 * h + v;
        }
        return h;
    }
}
