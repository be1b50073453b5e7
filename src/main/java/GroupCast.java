import java.util.Arrays;

/**
 * A group of nodes that give the same acts to stack machines of their own, in the order that the
 * leader of their view sets, and that leave behind who is suspected by a change of view.
 */
public final class GroupCast {
    public static final int NONE = -1;

    private static final int FEWEST_NODES = 2;
    private static final int GREATEST_GROUP = 7;
    private static final int USUAL_GROUP = 3;
    private static final int MOST_ACTS = 60;
    private static final int MOST_INTS = 20;
    private static final int MOST_FLYING = 500;
    private static final int NO_SUCH_ACT = NONE - 100000;
    private static final int LOST_ON_ARRIVAL = 20;

    private static final int LIVE = 0;
    private static final int DOWN = 1;
    private static final int OUT = 2;

    private static final int NO_TASK = 0;
    private static final int ASKS = 1;
    private static final int AWAITS = 2;
    private static final int FLUSHES = 3;
    private static final int SYNCS = 4;

    private static final int ADD = 1;
    private static final int MUL = 2;
    private static final int DUP = 3;
    private static final int POP = 4;
    private static final int SWAP = 5;
    private static final int ACT_STEP = 8;
    private static final int GREATEST_PUSH = 1000;

    private static final int PASS = 1;
    private static final int ORDER = 2;
    private static final int HELD = 3;
    private static final int DO = 4;
    private static final int ELECT = 5;
    private static final int WAIT = 6;
    private static final int FLUSH = 7;
    private static final int FLUSHED = 8;
    private static final int SYNC = 9;
    private static final int SYNCED = 10;
    private static final int BEGIN = 11;
    private static final int LEFT = 12;

    private static final int[] NO_ACTS = {};

    private final Tally tally;
    private final Post post;
    private final Node[] nodes;

    public GroupCast(int n) {
        int size = n >= FEWEST_NODES && n <= GREATEST_GROUP ? n : USUAL_GROUP;
        tally = new Tally();
        post = new Post(size, tally);
        nodes = new Node[size];
        for (int i = 0; i < size; i++) {
            nodes[i] = new Node(i, size, post, tally);
        }
    }

    public int submit(int node, int act) {
        Node one = find(node);
        if (one == null || !isAct(act)) {
            return NONE;
        }
        return one.isLive() ? one.accept(act) : 0;
    }

    public int deliver(int from, int to) {
        Node receiver = find(to);
        Channel channel = post.between(from, to);
        if (receiver == null || channel == null) {
            return NONE;
        }
        Letter letter = post.takeOldest(channel);
        if (letter == null) {
            return 0;
        }
        if (!receiver.isLive()) {
            tally.lost++;
            return LOST_ON_ARRIVAL + letter.kind;
        }
        receiver.receive(from, letter);
        receiver.goOn();
        return letter.kind;
    }

    public int suspect(int node, int peer) {
        Node one = find(node);
        if (one == null || find(peer) == null) {
            return NONE;
        }
        if (node == peer || !one.isLive() || has(one.suspects, peer)) {
            return 0;
        }
        one.turnAgainst(peer);
        one.goOn();
        return 1;
    }

    public boolean crash(int node) {
        Node one = find(node);
        if (one == null || !one.isLive()) {
            return false;
        }
        one.life = DOWN;
        return true;
    }

    public int timeout(int node) {
        Node one = find(node);
        if (one == null) {
            return NONE;
        }
        if (!one.isLive() || one.task == NO_TASK) {
            return 0;
        }
        one.losePatience();
        one.goOn();
        return 1;
    }

    public int node(int node, int what) {
        Node one = find(node);
        return one == null ? NONE : one.tell(what);
    }

    public int held(int node, int i) {
        Node one = find(node);
        if (one == null || i < 0 || i >= one.row.size) {
            return NO_SUCH_ACT;
        }
        return one.row.acts[i];
    }

    public int depth(int node) {
        Node one = find(node);
        return one == null ? NONE : one.machine.size;
    }

    public int top(int node, int i) {
        Node one = find(node);
        return one == null ? 0 : one.machine.fromTop(i);
    }

    public int flying(int from, int to) {
        if (from == NONE) {
            return post.inFlight;
        }
        Channel channel = post.between(from, to);
        return channel == null ? NONE : channel.size;
    }

    public int letter(int from, int to, int what) {
        Channel channel = post.between(from, to);
        if (channel == null || channel.first == null) {
            return NONE;
        }
        return channel.first.tell(what);
    }

    public int count(int what) {
        return tally.tell(what);
    }

    private Node find(int node) {
        return node >= 0 && node < nodes.length ? nodes[node] : null;
    }

    private static boolean isAct(int act) {
        if (act >= ADD && act <= SWAP) {
            return true;
        }
        boolean inReach = act >= -GREATEST_PUSH * ACT_STEP && act <= GREATEST_PUSH * ACT_STEP;
        return inReach && act % ACT_STEP == 0;
    }

    private static boolean has(int bits, int node) {
        return (bits & 1 << node) != 0;
    }

    private static int without(int bits, int node) {
        return bits & ~(1 << node);
    }

    private static int allAbove(int bits, int node) {
        return bits & ~((2 << node) - 1);
    }

    /** What has happened in the whole group so far. */
    private static final class Tally {
        int sent;
        int lost;
        int carriedOut;
        int begins;
        int flushes;

        int tell(int what) {
            switch (what) {
                case 0: return sent;
                case 1: return lost;
                case 2: return carriedOut;
                case 3: return begins;
                case 4: return flushes;
                default: return NONE;
            }
        }
    }

    /** Its acts are never changed once it is made, so letters and nodes may share one row of them. */
    private static final class Letter {
        final int kind;
        final int number;
        final int detail;
        final int[] acts;
        Letter next;

        Letter(int kind, int number, int detail, int[] acts) {
            this.kind = kind;
            this.number = number;
            this.detail = detail;
            this.acts = acts;
        }

        int firstAct() {
            return acts.length > 0 ? acts[0] : 0;
        }

        int tell(int what) {
            switch (what) {
                case 0: return kind;
                case 1: return number;
                case 2: return detail;
                case 3: return acts.length;
                default: return NONE;
            }
        }
    }

    /** The letters that fly from one node to another, the oldest first. */
    private static final class Channel {
        Letter first;
        Letter last;
        int size;

        void put(Letter letter) {
            if (last == null) {
                first = letter;
            } else {
                last.next = letter;
            }
            last = letter;
            size++;
        }

        Letter take() {
            Letter oldest = first;
            if (oldest == null) {
                return null;
            }
            first = oldest.next;
            if (first == null) {
                last = null;
            }
            size--;
            return oldest;
        }
    }

    /** All channels of the group, which share one bound on the letters that fly. */
    private static final class Post {
        final int size;
        final Tally tally;
        final Channel[] channels;
        int inFlight;

        Post(int size, Tally tally) {
            this.size = size;
            this.tally = tally;
            channels = new Channel[size * size];
            for (int i = 0; i < channels.length; i++) {
                channels[i] = new Channel();
            }
        }

        Channel between(int from, int to) {
            boolean known = from >= 0 && from < size && to >= 0 && to < size;
            return known ? channels[from * size + to] : null;
        }

        Letter takeOldest(Channel channel) {
            Letter letter = channel.take();
            if (letter != null) {
                inFlight--;
            }
            return letter;
        }

        /** To each of those whose bits are set, by their numbers. */
        void send(int from, int receivers, int kind, int number, int detail, int[] acts) {
            for (int to = 0; to < size; to++) {
                if (!has(receivers, to)) {
                    continue;
                }
                tally.sent++;
                Channel channel = between(from, to);
                if (channel == null || inFlight >= MOST_FLYING) {
                    tally.lost++;
                } else {
                    channel.put(new Letter(kind, number, detail, acts));
                    inFlight++;
                }
            }
        }
    }

    private static final class Machine {
        final int[] ints = new int[MOST_INTS];
        int size;

        void carryOut(int act) {
            switch (act) {
                case ADD: add(); break;
                case MUL: multiply(); break;
                case DUP: duplicate(); break;
                case POP: drop(); break;
                case SWAP: swap(); break;
                default: push(act / ACT_STEP); break;
            }
        }

        int fromTop(int i) {
            return i >= 0 && i < size ? ints[size - 1 - i] : 0;
        }

        private void push(int value) {
            if (size < MOST_INTS) {
                ints[size] = value;
                size++;
            }
        }

        private void add() {
            if (size >= 2) {
                ints[size - 2] += ints[size - 1];
                size--;
            }
        }

        private void multiply() {
            if (size >= 2) {
                ints[size - 2] *= ints[size - 1];
                size--;
            }
        }

        private void duplicate() {
            if (size >= 1 && size < MOST_INTS) {
                ints[size] = ints[size - 1];
                size++;
            }
        }

        private void drop() {
            if (size >= 1) {
                size--;
            }
        }

        private void swap() {
            if (size >= 2) {
                int upper = ints[size - 1];
                ints[size - 1] = ints[size - 2];
                ints[size - 2] = upper;
            }
        }
    }

    /** The acts that a node holds. */
    private static final class Row {
        final int[] acts = new int[MOST_ACTS];
        int size;

        boolean isFull() {
            return size >= MOST_ACTS;
        }

        void add(int act) {
            if (!isFull()) {
                acts[size] = act;
                size++;
            }
        }

        int[] copy() {
            return Arrays.copyOf(acts, size);
        }

        void become(int[] others) {
            size = Math.min(others.length, MOST_ACTS);
            System.arraycopy(others, 0, acts, 0, size);
        }
    }

    /** The change of view that a node is at: who is to be in it, who must still answer, the best so far. */
    private static final class Change {
        int members;
        int awaited;
        int[] best = NO_ACTS;
        int bestStamp;
        int bestNode;

        /** The node that starts it has answered at once, by what it holds. */
        void start(int membersToBe, int starter, int stamp, int[] acts) {
            members = membersToBe;
            awaited = without(membersToBe, starter);
            bestNode = starter;
            bestStamp = stamp;
            best = acts;
        }

        void answered(int node) {
            awaited = without(awaited, node);
        }

        void weigh(int node, int stamp, int[] acts) {
            if (isBetter(node, stamp, acts.length)) {
                bestNode = node;
                bestStamp = stamp;
                best = acts;
            }
        }

        private boolean isBetter(int node, int stamp, int length) {
            if (stamp != bestStamp) {
                return stamp > bestStamp;
            }
            if (length != best.length) {
                return length > best.length;
            }
            return node < bestNode;
        }
    }

    private static final class Node {
        final int id;
        final int groupSize;
        final Post post;
        final Tally tally;
        final Row row = new Row();
        final Machine machine = new Machine();
        final Change change = new Change();
        final int[] toldHeld;
        int life = LIVE;
        int task = NO_TASK;
        int view;
        int members;
        int promise;
        int stamp;
        int carriedOut;
        int suspects;
        // Kept through its own flushes and through begins: the document lets neither make it forgotten.
        int lastFlusher = NONE;

        Node(int id, int groupSize, Post post, Tally tally) {
            this.id = id;
            this.groupSize = groupSize;
            this.post = post;
            this.tally = tally;
            toldHeld = new int[groupSize];
            members = (1 << groupSize) - 1;
        }

        int tell(int what) {
            switch (what) {
                case 0: return life;
                case 1: return task;
                case 2: return view;
                case 3: return members;
                case 4: return leader();
                case 5: return promise;
                case 6: return suspects;
                case 7: return row.size;
                case 8: return carriedOut;
                case 9: return stamp;
                case 10: return isBlocked() ? 1 : 0;
                case 11: return isChanging() ? change.members : 0;
                default: return NONE;
            }
        }

        boolean isLive() {
            return life == LIVE;
        }

        private boolean isBlocked() {
            return promise != view;
        }

        private boolean isChanging() {
            return task == FLUSHES || task == SYNCS;
        }

        private int leader() {
            for (int i = groupSize - 1; i > 0; i--) {
                if (has(members, i)) {
                    return i;
                }
            }
            return 0;
        }

        private boolean leadsUnblocked() {
            return leader() == id && !isBlocked();
        }

        private boolean areMost(int bits) {
            return Integer.bitCount(bits) * 2 > groupSize;
        }

        private int others() {
            return without(members, id);
        }

        private void reply(int to, int kind, int number, int detail) {
            post.send(id, 1 << to, kind, number, detail, NO_ACTS);
        }

        int accept(int act) {
            if (isBlocked()) {
                return 2;
            }
            if (leader() != id) {
                post.send(id, 1 << leader(), PASS, 0, 0, new int[] {act});
                return 1;
            }
            if (row.isFull()) {
                return 3;
            }
            putInOrder(act);
            carryOutWhatMostHold();
            return 1;
        }

        private void putInOrder(int act) {
            int place = row.size;
            row.add(act);
            post.send(id, others(), ORDER, view, place, new int[] {act});
        }

        private void carryOutWhatMostHold() {
            int most = heldByMost();
            if (most > carriedOut) {
                carryOutUpTo(most);
                post.send(id, others(), DO, view, most, NO_ACTS);
            }
        }

        private int heldByMost() {
            for (int k = row.size; k > 0; k--) {
                if (areMost(holdersOf(k))) {
                    return k;
                }
            }
            return 0;
        }

        private int holdersOf(int k) {
            int holders = 0;
            for (int i = 0; i < groupSize; i++) {
                int holds = i == id ? row.size : toldHeld[i];
                if (has(members, i) && holds >= k) {
                    holders |= 1 << i;
                }
            }
            return holders;
        }

        private void carryOutUpTo(int many) {
            int end = Math.min(many, row.size);
            for (int i = carriedOut; i < end; i++) {
                machine.carryOut(row.acts[i]);
                tally.carriedOut++;
            }
            carriedOut = Math.max(carriedOut, end);
        }

        void receive(int from, Letter letter) {
            switch (letter.kind) {
                case PASS: onPass(letter); break;
                case ORDER: onOrder(from, letter); break;
                case HELD: onHeld(from, letter); break;
                case DO: onDo(letter); break;
                case ELECT: onElect(from); break;
                case WAIT: onWait(); break;
                case FLUSH: onFlush(from, letter); break;
                case FLUSHED: onFlushed(from, letter); break;
                case SYNC: onSync(from, letter); break;
                case SYNCED: onSynced(from, letter); break;
                case BEGIN: onBegin(letter); break;
                case LEFT: life = OUT; break;
                default: break;
            }
        }

        private void onPass(Letter letter) {
            if (leadsUnblocked() && !row.isFull()) {
                putInOrder(letter.firstAct());
                carryOutWhatMostHold();
            } else {
                tally.lost++;
            }
        }

        private void onOrder(int from, Letter letter) {
            boolean isNext = row.size == letter.detail && !row.isFull();
            if (letter.number == view && !isBlocked() && isNext) {
                row.add(letter.firstAct());
                reply(from, HELD, view, row.size);
            }
        }

        private void onHeld(int from, Letter letter) {
            boolean isSender = from >= 0 && from < toldHeld.length;
            if (letter.number == view && leadsUnblocked() && isSender) {
                toldHeld[from] = Math.max(toldHeld[from], letter.detail);
                carryOutWhatMostHold();
            }
        }

        private void onDo(Letter letter) {
            if (letter.number == view && !isBlocked()) {
                carryOutUpTo(letter.detail);
            }
        }

        private void onElect(int from) {
            if (from < id) {
                reply(from, WAIT, 0, 0);
                if (task == NO_TASK) {
                    ask();
                }
            }
        }

        private void onWait() {
            if (task == ASKS) {
                task = AWAITS;
            }
        }

        private void onFlush(int from, Letter letter) {
            if (letter.number > promise) {
                promise = letter.number;
                lastFlusher = from;
                task = NO_TASK;
                post.send(id, 1 << from, FLUSHED, promise, stamp, row.copy());
            }
        }

        private void onFlushed(int from, Letter letter) {
            if (task == FLUSHES && letter.number == promise) {
                change.weigh(from, letter.detail, letter.acts);
                change.answered(from);
            }
        }

        private void onSync(int from, Letter letter) {
            if (letter.number == promise) {
                row.become(letter.acts);
                stamp = promise;
                reply(from, SYNCED, promise, 0);
            }
        }

        private void onSynced(int from, Letter letter) {
            if (task == SYNCS && letter.number == promise) {
                change.answered(from);
            }
        }

        private void onBegin(Letter letter) {
            if (letter.number == promise) {
                begin(letter.detail);
            }
        }

        /** Takes a change as far as its answers allow; a node that is alone in it goes all the way. */
        void goOn() {
            if (task == FLUSHES && change.awaited == 0) {
                giveBest();
            }
            if (task == SYNCS && change.awaited == 0) {
                beginAnew();
            }
        }

        private void giveBest() {
            row.become(change.best);
            stamp = promise;
            task = SYNCS;
            change.awaited = without(change.members, id);
            post.send(id, change.awaited, SYNC, promise, 0, change.best);
        }

        private void beginAnew() {
            post.send(id, without(change.members, id), BEGIN, promise, change.members, NO_ACTS);
            post.send(id, members & ~change.members, LEFT, 0, 0, NO_ACTS);
            begin(change.members);
        }

        private void begin(int newMembers) {
            view = promise;
            members = newMembers;
            task = NO_TASK;
            Arrays.fill(toldHeld, row.size);
            carryOutUpTo(row.size);
            tally.begins++;
        }

        private void ask() {
            task = ASKS;
            int above = allAbove(members & ~suspects, id);
            if (above == 0) {
                flush();
            } else {
                post.send(id, above, ELECT, 0, 0, NO_ACTS);
            }
        }

        private void flush() {
            int membersToBe = members & ~suspects;
            if (!areMost(membersToBe)) {
                task = NO_TASK;
                return;
            }
            promise = nextOwnNumber();
            task = FLUSHES;
            tally.flushes++;
            change.start(membersToBe, id, stamp, row.copy());
            post.send(id, change.awaited, FLUSH, promise, membersToBe, NO_ACTS);
        }

        /** Each node has numbers of its own, so that no two changes share one. */
        private int nextOwnNumber() {
            int least = promise + 1;
            return least + Math.floorMod(id - least, groupSize);
        }

        void turnAgainst(int peer) {
            suspects |= 1 << peer;
            boolean sameChange = isChanging() && has(change.members, peer);
            if (sameChange || leadsUnblocked() && has(members, peer)) {
                flush();
            } else if (task == NO_TASK && (peer == leader() || peer == lastFlusher)) {
                ask();
            }
        }

        void losePatience() {
            if (task == AWAITS) {
                ask();
            } else if (task != NO_TASK) {
                flush();
            }
        }
    }
}
