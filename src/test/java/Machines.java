/** Acts, and groups of two nodes that have carried them out. */
final class Machines {
    static final int ADD = 1, MUL = 2, DUP = 3, POP = 4, SWAP = 5;

    private Machines() { }

    static int push(int k) {
        return 8 * k;
    }

    /** Two nodes, both of which have carried out the acts. */
    static GroupCast after(int... acts) {
        GroupCast x = new GroupCast(2);
        for (int act : acts) {
            carryOut(x, act);
        }
        Check.due("carried out by the leader", x.node(1, 8), acts.length);
        Check.due("carried out by the other", x.node(0, 8), acts.length);
        Check.due("carried out by both", x.count(2), 2 * acts.length);
        Check.due("the same depth", x.depth(0), x.depth(1));
        for (int i = 0; i < 20; i++) {
            Check.due("the same ints", x.top(0, i), x.top(1, i));
        }
        return x;
    }

    /** One act more, carried out by both of two nodes. */
    static void carryOut(GroupCast x, int act) {
        Check.due("submit", x.submit(1, act), 1);
        Check.dueDeliver("order", x, 1, 0, 2);
        Check.dueDeliver("held", x, 0, 1, 3);
        Check.dueDeliver("do", x, 1, 0, 4);
    }
}
