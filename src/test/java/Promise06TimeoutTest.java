/** Promise 6: timeout. */
public final class Promise06TimeoutTest {
    public static void main(String[] args) {
        noTask();
        noTaskAnyMore();
        down();
        out();
        noSuchNode();
        refusedCallsChangeNothing();
        ofOneThatAsks();
        ofOneThatAwaits();
        awaitingNobody();
        ofOneThatFlushes();
        ofOneThatSyncs();
        withoutMost();
        anewWithoutMost();
        Check.end();
    }

    private static void noTask() {
        Check.promise(6, "0: it has no task");
        for (int n = 2; n <= 7; n++) {
            GroupCast x = new GroupCast(n);
            for (int node = 0; node < n; node++) {
                Check.due("node " + node + " of " + n, x.timeout(node), 0);
            }
            Check.dueCounts("nothing is done", x, 0, 0, 0, 0, 0);
        }
    }

    private static void noTaskAnyMore() {
        Check.promise(6, "0: it has no task: not any more");
        GroupCast x = new GroupCast(4);
        x.suspect(2, 3);
        Check.dueDeliver("flush", x, 2, 0, 7);
        Check.due("one that has promised, and is blocked", x.timeout(0), 0);
        x.suspect(3, 1);
        Check.dueDeliver("a higher flush", x, 3, 2, 7);
        Check.due("one whose flush has been passed by", x.timeout(2), 0);
        GroupCast y = Scenes.withoutTheHighest(4);
        Check.due("who has begun as the flusher", y.timeout(2), 0);
        Check.due("who has begun with it", y.timeout(0), 0);
        GroupCast z = new GroupCast(2);
        z.suspect(1, 0);
        Check.due("a leader that has no most", z.timeout(1), 0);
    }

    private static void down() {
        Check.promise(6, "0: it is not live: DOWN");
        GroupCast x = new GroupCast(3);
        x.suspect(0, 2);
        x.crash(0);
        x.crash(1);
        Check.due("one with a task", x.timeout(0), 0);
        Check.due("one without", x.timeout(1), 0);
        Check.due("nothing is flushed", x.count(4), 0);
        Check.due("its task", x.node(0, 1), 1);
    }

    private static void out() {
        Check.promise(6, "0: it is not live: OUT");
        GroupCast x = Scenes.withoutTheHighest(3);
        x.suspect(2, 0);
        Check.due("the old leader flushes", x.node(2, 1), 3);
        x.deliver(1, 2);
        Check.due("a task, but out", x.timeout(2), 0);
        Check.due("its promise", x.node(2, 5), 2);
    }

    private static void noSuchNode() {
        Check.promise(6, "NONE: there is no such node");
        for (int n = 2; n <= 7; n++) {
            GroupCast x = new GroupCast(n);
            for (int node : new int[] {-1, n, 8, Integer.MIN_VALUE, Integer.MAX_VALUE}) {
                Check.due("timeout(" + node + ") of " + n, x.timeout(node), -1);
            }
        }
    }

    private static void refusedCallsChangeNothing() {
        Check.promise(6, "0, NONE: nothing is done");
        GroupCast x = new GroupCast(4);
        x.suspect(2, 3);
        x.suspect(0, 3);
        x.crash(2);
        String before = Check.seen(x, 4);
        Check.due("no task", x.timeout(1), 0);
        Check.due("no task, the leader", x.timeout(3), 0);
        Check.due("down", x.timeout(2), 0);
        Check.due("no node", x.timeout(4), -1);
        Check.dueUnchanged("after all of these", x, 4, before);
    }

    private static void ofOneThatAsks() {
        Check.promise(6, "A TIMEOUT of a node that ASKS: it FLUSHES");
        GroupCast x = new GroupCast(4);
        x.suspect(1, 3);
        Check.due("it asks", x.node(1, 1), 1);
        Check.due("timeout(1)", x.timeout(1), 1);
        Check.dueNode("it flushes", x, 1, 0, 3, 0, 15, 3, 1, 8, 0, 0, 0, 1, 7);
        Check.due("flush to 0", x.letter(1, 0, 0), 7);
        Check.dueDeliver("elect, flush to 2", x, 1, 2, 5, 7);
        Check.due("none to 3", x.flying(1, 3), 0);
        Check.due("flushes", x.count(4), 1);
    }

    private static void ofOneThatAwaits() {
        Check.promise(6, "that AWAITS: it ASKS");
        GroupCast x = new GroupCast(5);
        x.suspect(1, 4);
        x.deliver(1, 2);
        x.deliver(2, 1);
        Check.due("it awaits", x.node(1, 1), 2);
        x.suspect(1, 2);
        int sent = x.count(0);
        Check.due("timeout(1)", x.timeout(1), 1);
        Check.dueNode("it asks", x, 1, 0, 1, 0, 31, 4, 0, 20, 0, 0, 0, 0, 0);
        Check.due("elect to 3, again", x.flying(1, 3), 2);
        Check.due("not to 2", x.flying(1, 2), 0);
        Check.due("one letter", x.count(0), sent + 1);
        x.deliver(1, 3);
        x.deliver(3, 1);
        Check.due("it awaits", x.node(1, 1), 2);
        x.suspect(1, 3);
        Check.due("timeout(1)", x.timeout(1), 1);
        Check.dueNode("with two it has no most", x, 1, 0, 0, 0, 31, 4, 0, 28, 0, 0, 0, 0, 0);
    }

    private static void awaitingNobody() {
        Check.promise(6, "that AWAITS: it ASKS: with none above that it does not suspect");
        GroupCast x = new GroupCast(5);
        x.suspect(2, 4);
        x.deliver(2, 3);
        x.deliver(3, 2);
        Check.due("it awaits", x.node(2, 1), 2);
        x.suspect(2, 3);
        Check.due("timeout(2)", x.timeout(2), 1);
        Check.dueNode("with none above, it flushes at once", x, 2, 0, 3, 0, 31, 4, 2, 24, 0, 0, 0, 1, 7);
    }

    private static void ofOneThatFlushes() {
        Check.promise(6, "that FLUSHES: it FLUSHES anew");
        GroupCast x = new GroupCast(4);
        x.suspect(2, 3);
        Check.due("its number", x.node(2, 5), 2);
        Check.dueDeliver("flush 2", x, 2, 0, 7);
        Check.dueDeliver("flush 2", x, 2, 1, 7);
        Check.dueDeliver("flushed 2", x, 0, 2, 8);
        Check.due("timeout(2)", x.timeout(2), 1);
        Check.dueNode("it flushes anew", x, 2, 0, 3, 0, 15, 3, 6, 8, 0, 0, 0, 1, 7);
        Check.due("flushes", x.count(4), 2);
        Check.dueDeliver("flushed 2 comes too late", x, 1, 2, 8);
        Check.due("it flushes", x.node(2, 1), 3);
        Check.dueDeliver("flush 6", x, 2, 0, 7);
        Check.dueDeliver("flushed 6", x, 0, 2, 8);
        Check.due("flushed 2 does not count", x.node(2, 1), 3);
        Check.dueDeliver("flush 6", x, 2, 1, 7);
        Check.dueDeliver("flushed 6", x, 1, 2, 8);
        Check.due("it syncs", x.node(2, 1), 4);
    }

    private static void ofOneThatSyncs() {
        Check.promise(6, "or SYNCS: it FLUSHES anew");
        GroupCast x = new GroupCast(3);
        x.suspect(1, 2);
        Check.dueDeliver("flush 1", x, 1, 0, 7);
        Check.dueDeliver("flushed 1", x, 0, 1, 8);
        Check.due("it syncs", x.node(1, 1), 4);
        Check.due("timeout(1)", x.timeout(1), 1);
        Check.dueNode("it flushes anew", x, 1, 0, 3, 0, 7, 2, 4, 4, 0, 0, 1, 1, 3);
        Check.dueDeliver("sync 1, flush 4", x, 1, 0, 9, 7);
        Check.dueDeliver("synced 1", x, 0, 1, 10);
        Check.due("it does not begin", x.node(1, 2), 0);
        Check.dueLetter("flushed 4 by stamp 1", x, 0, 1, 8, 4, 1, 0);
        Check.dueDeliver("flushed 4", x, 0, 1, 8);
        Check.dueDeliver("sync 4", x, 1, 0, 9);
        Check.dueDeliver("synced 4", x, 0, 1, 10);
        Check.due("it begins", x.node(1, 2), 4);
        Check.due("no task", x.timeout(1), 0);
    }

    private static void withoutMost() {
        Check.promise(6, "it FLUSHES: if they are not MOST of all N, its task is none");
        GroupCast x = new GroupCast(4);
        x.suspect(1, 2);
        x.suspect(1, 3);
        Check.dueNode("0 and 1 are not most", x, 1, 0, 0, 0, 15, 3, 0, 12, 0, 0, 0, 0, 0);
        x.suspect(0, 1);
        x.suspect(0, 3);
        Check.due("it asks 2", x.node(0, 1), 1);
        Check.due("timeout(0)", x.timeout(0), 1);
        Check.dueNode("0 and 2 are not most", x, 0, 0, 0, 0, 15, 3, 0, 10, 0, 0, 0, 0, 0);
        Check.due("timeout(0) again", x.timeout(0), 0);
        Check.due("flushes", x.count(4), 0);
    }

    private static void anewWithoutMost() {
        Check.promise(6, "it FLUSHES: one that AWAITS, when they are not MOST");
        GroupCast x = new GroupCast(5);
        x.suspect(1, 4);
        Scenes.roundTrips(x, 1, 5, 6, 2);
        x.suspect(1, 2);
        x.suspect(1, 3);
        Check.due("it awaits", x.node(1, 1), 2);
        int sent = x.count(0);
        Check.due("timeout(1)", x.timeout(1), 1);
        Check.dueNode("0 and 1 are not most of five", x, 1, 0, 0, 0, 31, 4, 0, 28, 0, 0, 0, 0, 0);
        Check.due("no letter", x.count(0), sent);
        Check.due("timeout(1) again", x.timeout(1), 0);
    }
}
