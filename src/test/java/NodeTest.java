/** Promise 7: node. */
public final class NodeTest {
    public static void main(String[] args) {
        wrongArguments();
        GroupCast x = new GroupCast(3);
        x.submit(2, 24);
        x.submit(2, 32);
        Check.dueDeliver("order", x, 2, 0, 2, 2);
        Check.dueDeliver("held", x, 0, 2, 3);
        Check.dueDeliver("order", x, 2, 1, 2, 2, 4);
        Check.dueNode("node 0", x, 0, 0, 0, 0, 7, 2, 0, 0, 2, 0, 0, 0, 0);
        Check.dueNode("node 1", x, 1, 0, 0, 0, 7, 2, 0, 0, 2, 1, 0, 0, 0);
        Check.dueNode("node 2", x, 2, 0, 0, 0, 7, 2, 0, 0, 2, 1, 0, 0, 0);
        x.crash(2);
        x.suspect(0, 2);
        Check.dueNode("node 0 asks", x, 0, 0, 1, 0, 7, 2, 0, 4, 2, 0, 0, 0, 0);
        Check.dueDeliver("elect", x, 0, 1, 5);
        Check.dueNode("node 1 asks the leader, too", x, 1, 0, 1, 0, 7, 2, 0, 0, 2, 1, 0, 0, 0);
        Check.dueDeliver("wait", x, 1, 0, 6);
        Check.dueNode("node 0 awaits", x, 0, 0, 2, 0, 7, 2, 0, 4, 2, 0, 0, 0, 0);
        x.suspect(1, 2);
        x.timeout(1);
        Check.dueNode("node 1 flushes", x, 1, 0, 3, 0, 7, 2, 1, 4, 2, 1, 0, 1, 3);
        Check.dueDeliver("flush", x, 1, 0, 7);
        Check.dueNode("node 0 has promised", x, 0, 0, 0, 0, 7, 2, 1, 4, 2, 0, 0, 1, 0);
        Check.dueDeliver("flushed", x, 0, 1, 8);
        Check.dueNode("node 1 syncs", x, 1, 0, 4, 0, 7, 2, 1, 4, 2, 1, 1, 1, 3);
        Check.dueDeliver("sync", x, 1, 0, 9);
        Check.dueNode("node 0 holds it by the number", x, 0, 0, 0, 0, 7, 2, 1, 4, 2, 0, 1, 1, 0);
        Check.dueDeliver("synced", x, 0, 1, 10);
        Check.dueNode("node 1 begins", x, 1, 0, 0, 1, 3, 1, 1, 4, 2, 2, 1, 0, 0);
        Check.dueDeliver("begin", x, 1, 0, 11);
        Check.dueNode("node 0 begins", x, 0, 0, 0, 1, 3, 1, 1, 4, 2, 2, 1, 0, 0);
        Check.dueNode("node 2 is down", x, 2, 1, 0, 0, 7, 2, 0, 0, 2, 1, 0, 0, 0);
        Check.end();
    }

    private static void wrongArguments() {
        GroupCast x = new GroupCast(5);
        for (int node : new int[] {-1, 5, 7, Integer.MIN_VALUE, Integer.MAX_VALUE}) {
            Check.due("node(" + node + ", 0)", x.node(node, 0), -1);
            Check.due("node(" + node + ", 12)", x.node(node, 12), -1);
        }
        for (int what : new int[] {-1, 12, 13, Integer.MIN_VALUE, Integer.MAX_VALUE}) {
            Check.due("node(0, " + what + ")", x.node(0, what), -1);
        }
    }
}
