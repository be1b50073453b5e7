/** Promise 6: timeout. */
public final class TimeoutTest {
    public static void main(String[] args) {
        withoutATask();
        ofOneThatAsks();
        ofOneThatAwaits();
        ofOneThatFlushes();
        ofOneThatSyncs();
        withoutMost();
        Check.end();
    }

    private static void withoutATask() {
        GroupCast x = new GroupCast(3);
        for (int node : new int[] {-1, 3, 7, Integer.MIN_VALUE, Integer.MAX_VALUE}) {
            Check.due("timeout(" + node + ")", x.timeout(node), -1);
        }
        for (int node = 0; node < 3; node++) {
            Check.due("no task", x.timeout(node), 0);
        }
        x.suspect(0, 2);
        x.crash(0);
        Check.due("a task, but down", x.timeout(0), 0);
        Check.due("nothing is flushed", x.count(4), 0);
        Check.due("its task", x.node(0, 1), 1);
        GroupCast y = Scenes.withoutTheHighest(3);
        y.suspect(2, 0);
        Check.due("the old leader flushes", y.node(2, 1), 3);
        y.deliver(1, 2);
        Check.due("a task, but out", y.timeout(2), 0);
        Check.due("its promise", y.node(2, 5), 2);
    }

    private static void ofOneThatAsks() {
        GroupCast x = new GroupCast(4);
        x.suspect(1, 3);
        Check.due("it asks", x.node(1, 1), 1);
        Check.due("timeout(1)", x.timeout(1), 1);
        Check.dueNode("it flushes", x, 1, 0, 3, 0, 15, 3, 1, 8, 0, 0, 0, 1, 7);
        Check.due("flush to 0", x.letter(1, 0, 0), 7);
        Check.dueDeliver("elect, flush to 2", x, 1, 2, 5, 7);
        Check.due("none to 3", x.flying(1, 3), 0);
        Check.due("flushes", x.count(4), 1);
    }

    private static void ofOneThatAwaits() {
        GroupCast x = new GroupCast(5);
        x.suspect(1, 4);
        x.deliver(1, 2);
        x.deliver(2, 1);
        Check.due("it awaits", x.node(1, 1), 2);
        x.suspect(1, 2);
        int sent = x.count(0);
        Check.due("timeout(1)", x.timeout(1), 1);
        Check.dueNode("it asks", x, 1, 0, 1, 0, 31, 4, 0, 20, 0, 0, 0, 0, 0);
        Check.due("elect to 3, again", x.flying(1, 3), 2);
        Check.due("not to 2", x.flying(1, 2), 0);
        Check.due("one letter", x.count(0), sent + 1);
        x.deliver(1, 3);
        x.deliver(3, 1);
        Check.due("it awaits", x.node(1, 1), 2);
        x.suspect(1, 3);
        Check.due("timeout(1)", x.timeout(1), 1);
        Check.dueNode("with two it has no most", x, 1, 0, 0, 0, 31, 4, 0, 28, 0, 0, 0, 0, 0);
        awaitingNobody();
    }

    private static void awaitingNobody() {
        GroupCast x = new GroupCast(5);
        x.suspect(2, 4);
        x.deliver(2, 3);
        x.deliver(3, 2);
        Check.due("it awaits", x.node(2, 1), 2);
        x.suspect(2, 3);
        Check.due("timeout(2)", x.timeout(2), 1);
        Check.dueNode("with none above, it flushes at once", x, 2, 0, 3, 0, 31, 4, 2, 24, 0, 0, 0, 1, 7);
    }

    private static void ofOneThatFlushes() {
        GroupCast x = new GroupCast(4);
        x.suspect(2, 3);
        Check.due("its number", x.node(2, 5), 2);
        Check.dueDeliver("flush 2", x, 2, 0, 7);
        Check.dueDeliver("flush 2", x, 2, 1, 7);
        Check.dueDeliver("flushed 2", x, 0, 2, 8);
        Check.due("timeout(2)", x.timeout(2), 1);
        Check.dueNode("it flushes anew", x, 2, 0, 3, 0, 15, 3, 6, 8, 0, 0, 0, 1, 7);
        Check.due("flushes", x.count(4), 2);
        Check.dueDeliver("flushed 2 comes too late", x, 1, 2, 8);
        Check.due("it flushes", x.node(2, 1), 3);
        Check.dueDeliver("flush 6", x, 2, 0, 7);
        Check.dueDeliver("flushed 6", x, 0, 2, 8);
        Check.due("flushed 2 does not count", x.node(2, 1), 3);
        Check.dueDeliver("flush 6", x, 2, 1, 7);
        Check.dueDeliver("flushed 6", x, 1, 2, 8);
        Check.due("it syncs", x.node(2, 1), 4);
    }

    private static void ofOneThatSyncs() {
        GroupCast x = new GroupCast(3);
        x.suspect(1, 2);
        Check.dueDeliver("flush 1", x, 1, 0, 7);
        Check.dueDeliver("flushed 1", x, 0, 1, 8);
        Check.due("it syncs", x.node(1, 1), 4);
        Check.due("timeout(1)", x.timeout(1), 1);
        Check.dueNode("it flushes anew", x, 1, 0, 3, 0, 7, 2, 4, 4, 0, 0, 1, 1, 3);
        Check.dueDeliver("sync 1, flush 4", x, 1, 0, 9, 7);
        Check.dueDeliver("synced 1", x, 0, 1, 10);
        Check.due("it does not begin", x.node(1, 2), 0);
        Check.dueLetter("flushed 4 by stamp 1", x, 0, 1, 8, 4, 1, 0);
        Check.dueDeliver("flushed 4", x, 0, 1, 8);
        Check.dueDeliver("sync 4", x, 1, 0, 9);
        Check.dueDeliver("synced 4", x, 0, 1, 10);
        Check.due("it begins", x.node(1, 2), 4);
        Check.due("no task", x.timeout(1), 0);
    }

    private static void withoutMost() {
        GroupCast x = new GroupCast(4);
        x.suspect(1, 2);
        x.suspect(1, 3);
        Check.dueNode("0 and 1 are not most", x, 1, 0, 0, 0, 15, 3, 0, 12, 0, 0, 0, 0, 0);
        x.suspect(0, 1);
        x.suspect(0, 3);
        Check.due("it asks 2", x.node(0, 1), 1);
        Check.due("timeout(0)", x.timeout(0), 1);
        Check.dueNode("0 and 2 are not most", x, 0, 0, 0, 0, 15, 3, 0, 10, 0, 0, 0, 0, 0);
        Check.due("timeout(0) again", x.timeout(0), 0);
        Check.due("flushes", x.count(4), 0);
    }
}
