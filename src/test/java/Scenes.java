import java.util.Arrays;

/** Groups that have come to a state from which several tests go on. */
final class Scenes {
    private Scenes() { }

    /** The same answer so many times. */
    static int[] times(int many, int answer) {
        int[] answers = new int[many];
        Arrays.fill(answers, answer);
        return answers;
    }

    /** The leader of n nodes holds 60 acts, 8 * 0 to 8 * 59, all orders of which still fly. */
    static GroupCast fullOfActs(int n) {
        GroupCast x = new GroupCast(n);
        for (int i = 0; i < 60; i++) {
            Check.due("act " + i, x.submit(n - 1, 8 * i), 1);
        }
        return x;
    }

    /** Seven nodes, among which so many letters fly that they touch none but node 5. */
    static GroupCast fullOfLetters(int many) {
        GroupCast x = new GroupCast(7);
        fillWithLetters(x, many);
        return x;
    }

    /**
     * Makes letters of seven nodes fly until there are so many. All of these are flushes from node 5, five or
     * four at a time, so that few calls make many; while they aren't delivered, no other node is touched.
     */
    static void fillWithLetters(GroupCast x, int many) {
        int missing = many - x.flying(-1, 0);
        int smallOnes = (5 - missing % 5) % 5;
        int greatOnes = (missing - 4 * smallOnes) / 5;
        Check.due("node 5 flushes with 0 .. 4", x.suspect(5, 6), 1);
        for (int i = 1; i < greatOnes; i++) {
            x.timeout(5);
        }
        for (int i = 0; i < smallOnes; i++) {
            Check.due("node 5 flushes with 1 .. 4", i == 0 ? x.suspect(5, 0) : x.timeout(5), 1);
        }
        Check.due("flying", x.flying(-1, 0), many);
    }

    /** From which node and to which withLetter(kind) has its letter, by the kind. */
    static final int[] LETTER_FROM = {-1, 0, 2, 0, 2, 0, 1, 1, 0, 1, 0, 1, 1};
    static final int[] LETTER_TO = {-1, 2, 0, 2, 0, 1, 0, 0, 1, 0, 1, 0, 2};

    /** Three nodes, among which a letter of that kind is the oldest of its channel. */
    static GroupCast withLetter(int kind) {
        GroupCast x = new GroupCast(3);
        int first;
        if (kind == 1) {
            x.submit(0, 24);
            first = 1;
        } else if (kind <= 4) {
            x.submit(2, 24);
            first = 2;
        } else if (kind <= 6) {
            x.suspect(0, 2);
            first = 5;
        } else {
            x.suspect(1, 2);
            first = 7;
        }
        int last = Math.min(kind, 11);
        for (int before = first; before < last; before++) {
            Check.dueDeliver("on the way", x, LETTER_FROM[before], LETTER_TO[before], before);
        }
        return x;
    }

    /** The highest of n nodes is left behind by the next one; its LEFT still flies, all else has come. */
    static GroupCast withoutTheHighest(int n) {
        GroupCast x = new GroupCast(n);
        x.suspect(n - 2, n - 1);
        changeView(x, n - 2, n - 2);
        return x;
    }

    /** Delivers all of a change of view, for a node that flushes with 0 .. last when nothing else flies among them. */
    static void changeView(GroupCast x, int flusher, int last) {
        int[] there = {7, 9, 11};
        int[] back = {8, 10};
        for (int step = 0; step < there.length; step++) {
            for (int peer = 0; peer <= last; peer++) {
                if (peer != flusher) {
                    Check.dueDeliver("change of view", x, flusher, peer, there[step]);
                }
            }
            for (int peer = 0; peer <= last && step < back.length; peer++) {
                if (peer != flusher) {
                    Check.dueDeliver("change of view", x, peer, flusher, back[step]);
                }
            }
        }
    }

    /** Delivers the flushes and what is flushed, for a node that flushes with those peers and then syncs. */
    static void toSync(GroupCast x, int flusher, int... peers) {
        roundTrips(x, flusher, 7, 8, peers);
        Check.due("node " + flusher + " syncs", x.node(flusher, 1), 4);
    }

    /** One letter there and one back, for each of the peers. */
    static void roundTrips(GroupCast x, int node, int there, int back, int... peers) {
        for (int peer : peers) {
            Check.dueDeliver("there", x, node, peer, there);
            Check.dueDeliver("back", x, peer, node, back);
        }
    }

    /**
     * Node 1 of five begins view 1 of 0 .. 3 after its time is over, so that the leader, node 3, is not
     * the one that flushed, and 0, 2 and 3 suspect nobody.
     */
    static GroupCast ledByAnotherThanTheFlusher() {
        GroupCast x = new GroupCast(5);
        x.suspect(1, 4);
        x.crash(4);
        x.timeout(1);
        for (int peer = 2; peer <= 3; peer++) {
            Check.dueDeliver("elect", x, 1, peer, 5);
        }
        Check.dueDeliver("node 2 asks, too", x, 2, 3, 5);
        Check.dueDeliver("node 2 asks, too", x, 2, 4, 25);
        Check.dueDeliver("node 3 asks, too", x, 3, 4, 25);
        Check.dueDeliver("wait", x, 2, 1, 6);
        Check.dueDeliver("wait", x, 3, 1, 6);
        Check.dueDeliver("wait", x, 3, 2, 6);
        changeView(x, 1, 3);
        return x;
    }

    /**
     * Nodes 0 and 4 of five hold three acts by stamp 0, node 1 none by stamp 8; nobody has begun anew.
     * What node 0 tells node 4 of that has come, or flies still.
     */
    static GroupCast greaterStampAndLongerRow(boolean toldHasCome) {
        GroupCast x = new GroupCast(5);
        for (int k = 1; k <= 3; k++) {
            x.submit(4, 8 * k);
        }
        Check.dueDeliver("only node 0 has them", x, 4, 0, 2, 2, 2);
        if (toldHasCome) {
            Check.dueDeliver("and tells it", x, 0, 4, 3, 3, 3);
        }
        x.suspect(3, 4);
        x.suspect(3, 0);
        for (int peer = 1; peer <= 2; peer++) {
            Check.dueDeliver("flush 3 and 8", x, 3, peer, 7, 7);
            Check.dueDeliver("flushed 3 and 8", x, peer, 3, 8, 8);
        }
        Check.dueDeliver("sync 8 comes to node 1 alone", x, 3, 1, 9);
        return x;
    }

    /** And node 2 has all three as members to be, and SYNCS by number 12. */
    static GroupCast greaterStampAgainstLongerRow(boolean toldHasCome) {
        GroupCast x = greaterStampAndLongerRow(toldHasCome);
        x.suspect(2, 3);
        x.timeout(2);
        Check.dueDeliver("flush 12", x, 2, 0, 7);
        Check.dueDeliver("flush 12", x, 2, 1, 7);
        Check.dueDeliver("elect, flush 12", x, 2, 4, 5, 7);
        Check.dueLetter("a longer row", x, 0, 2, 8, 12, 0, 3);
        Check.dueDeliver("flushed 12", x, 0, 2, 8);
        Check.dueLetter("a greater stamp", x, 1, 2, 8, 12, 8, 0);
        Check.dueDeliver("flushed 12", x, 1, 2, 8);
        Check.dueDeliver("orders, wait, flush 4", x, 4, 2, 2, 2, 2, 6, 7);
        Check.dueLetter("a longer row", x, 4, 2, 8, 12, 0, 3);
        Check.dueDeliver("flushed 12", x, 4, 2, 8);
        return x;
    }
}
