/** Groups that have come to a state from which several tests go on. */
final class Scenes {
    private Scenes() { }

    /** The highest of n nodes is left behind by the next one; its LEFT still flies, all else has come. */
    static GroupCast withoutTheHighest(int n) {
        GroupCast x = new GroupCast(n);
        x.suspect(n - 2, n - 1);
        changeView(x, n - 2, n - 2);
        return x;
    }

    /** Delivers all of a change of view, for a node that flushes with 0 .. last when nothing else flies among them. */
    static void changeView(GroupCast x, int flusher, int last) {
        int[] there = {7, 9, 11};
        int[] back = {8, 10};
        for (int step = 0; step < there.length; step++) {
            for (int peer = 0; peer <= last; peer++) {
                if (peer != flusher) {
                    Check.dueDeliver("change of view", x, flusher, peer, there[step]);
                }
            }
            for (int peer = 0; peer <= last && step < back.length; peer++) {
                if (peer != flusher) {
                    Check.dueDeliver("change of view", x, peer, flusher, back[step]);
                }
            }
        }
    }

    /**
     * Node 1 of five begins view 1 of 0 .. 3 after its time is over, so that the leader, node 3, is not
     * the one that flushed, and 0, 2 and 3 suspect nobody.
     */
    static GroupCast ledByAnotherThanTheFlusher() {
        GroupCast x = new GroupCast(5);
        x.suspect(1, 4);
        x.crash(4);
        x.timeout(1);
        for (int peer = 2; peer <= 3; peer++) {
            Check.dueDeliver("elect", x, 1, peer, 5);
        }
        Check.dueDeliver("node 2 asks, too", x, 2, 3, 5);
        Check.dueDeliver("node 2 asks, too", x, 2, 4, 25);
        Check.dueDeliver("node 3 asks, too", x, 3, 4, 25);
        Check.dueDeliver("wait", x, 2, 1, 6);
        Check.dueDeliver("wait", x, 3, 1, 6);
        Check.dueDeliver("wait", x, 3, 2, 6);
        changeView(x, 1, 3);
        return x;
    }

    /** Nodes 0 and 4 of five hold three acts by stamp 0, node 1 none by stamp 8; nobody has begun anew. */
    static GroupCast greaterStampAndLongerRow() {
        GroupCast x = new GroupCast(5);
        for (int k = 1; k <= 3; k++) {
            x.submit(4, 8 * k);
        }
        Check.dueDeliver("only node 0 has them", x, 4, 0, 2, 2, 2);
        Check.dueDeliver("and tells it", x, 0, 4, 3, 3, 3);
        x.suspect(3, 4);
        x.suspect(3, 0);
        for (int peer = 1; peer <= 2; peer++) {
            Check.dueDeliver("flush 3 and 8", x, 3, peer, 7, 7);
            Check.dueDeliver("flushed 3 and 8", x, peer, 3, 8, 8);
        }
        Check.dueDeliver("sync 8 comes to node 1 alone", x, 3, 1, 9);
        return x;
    }

    /** And node 2 has all three as members to be, and SYNCS by number 12. */
    static GroupCast greaterStampAgainstLongerRow() {
        GroupCast x = greaterStampAndLongerRow();
        x.suspect(2, 3);
        x.timeout(2);
        Check.dueDeliver("flush 12", x, 2, 0, 7);
        Check.dueDeliver("flush 12", x, 2, 1, 7);
        Check.dueDeliver("elect, flush 12", x, 2, 4, 5, 7);
        Check.dueLetter("a longer row", x, 0, 2, 8, 12, 0, 3);
        Check.dueDeliver("flushed 12", x, 0, 2, 8);
        Check.dueLetter("a greater stamp", x, 1, 2, 8, 12, 8, 0);
        Check.dueDeliver("flushed 12", x, 1, 2, 8);
        Check.dueDeliver("orders, wait, flush 4", x, 4, 2, 2, 2, 2, 6, 7);
        Check.dueLetter("a longer row", x, 4, 2, 8, 12, 0, 3);
        Check.dueDeliver("flushed 12", x, 4, 2, 8);
        return x;
    }
}
