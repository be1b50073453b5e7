/** Promise 4: suspect. */
public final class SuspectTest {
    public static void main(String[] args) {
        wrongArguments();
        notAgain();
        theLeaderFlushes();
        theLeaderHasNoMost();
        aBlockedLeader();
        whoIsNoMember();
        theLeaderIsSuspected();
        whoHasATask();
        whoFlushed();
        anew();
        Check.end();
    }

    private static void wrongArguments() {
        GroupCast x = new GroupCast(3);
        for (int node : new int[] {-1, 3, 7, 32, Integer.MIN_VALUE, Integer.MAX_VALUE}) {
            Check.due("suspect(" + node + ", 0)", x.suspect(node, 0), -1);
            Check.due("suspect(0, " + node + ")", x.suspect(0, node), -1);
            Check.due("suspect(" + node + ", " + node + ")", x.suspect(node, node), -1);
        }
        x.crash(1);
        Check.due("one that is down, and none", x.suspect(1, 3), -1);
        Check.due("nobody is suspected", x.node(0, 6), 0);
    }

    private static void notAgain() {
        GroupCast x = new GroupCast(4);
        Check.due("suspect(0, 1)", x.suspect(0, 1), 1);
        Check.due("suspect(0, 1) again", x.suspect(0, 1), 0);
        Check.due("suspect(0, 2)", x.suspect(0, 2), 1);
        Check.dueNode("only noted", x, 0, 0, 0, 0, 15, 3, 0, 6, 0, 0, 0, 0, 0);
        Check.due("itself", x.suspect(0, 0), 0);
        Check.due("itself, the leader", x.suspect(3, 3), 0);
        Check.due("not itself", x.node(3, 6), 0);
        Check.due("no letter", x.count(0), 0);
        x.crash(0);
        Check.due("one that is down", x.suspect(0, 3), 0);
        Check.due("its suspects", x.node(0, 6), 6);
        GroupCast y = Scenes.withoutTheHighest(3);
        y.deliver(1, 2);
        Check.due("one that is out", y.suspect(2, 0), 0);
        Check.due("its suspects", y.node(2, 6), 0);
        Check.due("suspected for ever", y.suspect(1, 2), 0);
        Check.due("in the new view, too", y.node(1, 6), 4);
    }

    private static void theLeaderFlushes() {
        GroupCast x = new GroupCast(5);
        Check.due("suspect(4, 1)", x.suspect(4, 1), 1);
        Check.dueNode("it flushes", x, 4, 0, 3, 0, 31, 4, 4, 2, 0, 0, 0, 1, 29);
        Check.due("no letter to who is suspected", x.flying(4, 1), 0);
        for (int peer : new int[] {0, 2, 3}) {
            Check.due("one letter", x.flying(4, peer), 1);
            Check.dueLetter("flush", x, 4, peer, 7, 4, 29, 0);
        }
        Check.due("flushes", x.count(4), 1);
    }

    private static void theLeaderHasNoMost() {
        GroupCast x = new GroupCast(2);
        Check.due("suspect(1, 0)", x.suspect(1, 0), 1);
        Check.dueNode("one of two is not most", x, 1, 0, 0, 0, 3, 1, 0, 1, 0, 0, 0, 0, 0);
        Check.due("suspect(0, 1)", x.suspect(0, 1), 1);
        Check.dueNode("one of two is not most", x, 0, 0, 0, 0, 3, 1, 0, 2, 0, 0, 0, 0, 0);
        Check.due("letters", x.count(0), 0);
        Check.due("flushes", x.count(4), 0);
        GroupCast y = new GroupCast(4);
        y.suspect(3, 0);
        y.suspect(3, 1);
        Check.dueNode("two of four are not most", y, 3, 0, 0, 0, 15, 3, 3, 3, 0, 0, 0, 1, 0);
        Check.due("flushes", y.count(4), 1);
        GroupCast z = new GroupCast(6);
        z.suspect(5, 0);
        z.suspect(5, 1);
        Check.dueNode("four of six are most", z, 5, 0, 3, 0, 63, 5, 11, 3, 0, 0, 0, 1, 60);
        z.suspect(5, 2);
        Check.due("three of six are not", z.node(5, 1), 0);
    }

    private static void aBlockedLeader() {
        GroupCast x = new GroupCast(5);
        x.suspect(0, 4);
        Check.dueDeliver("elect", x, 0, 3, 5);
        x.timeout(3);
        x.timeout(3);
        Check.dueDeliver("elect, flush 3 and 8", x, 3, 4, 5, 7, 7);
        Check.dueNode("the leader has promised 8", x, 4, 0, 0, 0, 31, 4, 8, 0, 0, 0, 0, 1, 0);
        int sent = x.count(0);
        Check.due("suspect(4, 0)", x.suspect(4, 0), 1);
        Check.dueNode("only noted", x, 4, 0, 0, 0, 31, 4, 8, 1, 0, 0, 0, 1, 0);
        Check.due("no letter", x.count(0), sent);
        Check.due("suspect(4, 3)", x.suspect(4, 3), 1);
        Check.dueNode("the flusher: it asks, so it flushes", x, 4, 0, 3, 0, 31, 4, 9, 9, 0, 0, 0, 1, 22);
        Check.due("two letters", x.count(0), sent + 2);
    }

    private static void whoIsNoMember() {
        GroupCast x = Scenes.ledByAnotherThanTheFlusher();
        int sent = x.count(0);
        Check.due("suspect(3, 4)", x.suspect(3, 4), 1);
        Check.dueNode("the leader does not mind", x, 3, 0, 0, 1, 15, 3, 1, 16, 0, 0, 1, 0, 0);
        Check.due("suspect(0, 4)", x.suspect(0, 4), 1);
        Check.dueNode("no leader any more", x, 0, 0, 0, 1, 15, 3, 1, 16, 0, 0, 1, 0, 0);
        Check.due("suspect(2, 3)", x.suspect(2, 3), 1);
        Check.dueNode("it flushes", x, 2, 0, 3, 1, 15, 3, 2, 8, 0, 0, 1, 1, 7);
        Check.due("suspect(2, 4)", x.suspect(2, 4), 1);
        Check.dueNode("none of the members to be", x, 2, 0, 3, 1, 15, 3, 2, 24, 0, 0, 1, 1, 7);
        Check.due("two letters", x.count(0), sent + 2);
    }

    private static void theLeaderIsSuspected() {
        GroupCast x = new GroupCast(5);
        Check.due("suspect(0, 2)", x.suspect(0, 2), 1);
        Check.due("suspect(0, 4)", x.suspect(0, 4), 1);
        Check.dueNode("it asks", x, 0, 0, 1, 0, 31, 4, 0, 20, 0, 0, 0, 0, 0);
        Check.due("elect goes to 1 and 3 alone", x.count(0), 2);
        Check.dueLetter("elect", x, 0, 1, 5, 0, 0, 0);
        Check.dueLetter("elect", x, 0, 3, 5, 0, 0, 0);
        Check.due("suspect(3, 4)", x.suspect(3, 4), 1);
        Check.dueNode("with none above, it flushes at once", x, 3, 0, 3, 0, 31, 4, 3, 16, 0, 0, 0, 1, 15);
        Check.due("three letters more", x.count(0), 5);
    }

    private static void whoHasATask() {
        GroupCast x = new GroupCast(5);
        x.suspect(0, 4);
        Check.due("letters", x.count(0), 3);
        Check.due("suspect(0, 3)", x.suspect(0, 3), 1);
        Check.dueNode("it asks as before", x, 0, 0, 1, 0, 31, 4, 0, 24, 0, 0, 0, 0, 0);
        x.deliver(0, 1);
        x.deliver(1, 0);
        Check.due("it awaits", x.node(0, 1), 2);
        Check.due("letters", x.count(0), 7);
        Check.due("suspect(0, 1)", x.suspect(0, 1), 1);
        Check.due("it awaits still", x.node(0, 1), 2);
        Check.due("letters", x.count(0), 7);
    }

    private static void whoFlushed() {
        GroupCast x = new GroupCast(5);
        x.suspect(2, 4);
        x.timeout(2);
        Check.dueDeliver("flush", x, 2, 1, 7);
        Check.due("suspect(1, 3)", x.suspect(1, 3), 1);
        Check.due("neither the leader nor the flusher", x.node(1, 1), 0);
        Check.due("suspect(1, 2)", x.suspect(1, 2), 1);
        Check.dueNode("the flusher", x, 1, 0, 1, 0, 31, 4, 2, 12, 0, 0, 0, 1, 0);
        Check.due("it asks the leader that it trusts", x.letter(1, 4, 0), 5);
        lastFlusherOfTwo();
        theFlusherOfTheView();
    }

    private static void lastFlusherOfTwo() {
        GroupCast x = new GroupCast(5);
        x.suspect(2, 4);
        x.timeout(2);
        x.suspect(3, 4);
        Check.dueDeliver("flush 2", x, 2, 0, 7);
        Check.dueDeliver("flush 3", x, 3, 0, 7);
        Check.due("suspect(0, 2)", x.suspect(0, 2), 1);
        Check.due("not promised last", x.node(0, 1), 0);
        Check.due("suspect(0, 3)", x.suspect(0, 3), 1);
        Check.due("promised last", x.node(0, 1), 1);
        Check.dueDeliver("flush 3", x, 3, 1, 7);
        Check.dueDeliver("flush 2, not heeded", x, 2, 1, 7);
        Check.due("suspect(1, 2)", x.suspect(1, 2), 1);
        Check.due("not promised", x.node(1, 1), 0);
        Check.due("suspect(1, 3)", x.suspect(1, 3), 1);
        Check.due("promised last", x.node(1, 1), 1);
    }

    private static void theFlusherOfTheView() {
        GroupCast x = Scenes.ledByAnotherThanTheFlusher();
        Check.due("suspect(0, 2)", x.suspect(0, 2), 1);
        Check.due("neither", x.node(0, 1), 0);
        Check.due("suspect(0, 1)", x.suspect(0, 1), 1);
        Check.dueNode("the flush that it promised last came from it", x, 0, 0, 1, 1, 15, 3, 1, 6, 0, 0, 1, 0, 0);
        Check.due("the one above that it trusts", x.letter(0, 3, 0), 5);
        Check.due("suspect(3, 1)", x.suspect(3, 1), 1);
        Check.dueNode("the leader flushes", x, 3, 0, 3, 1, 15, 3, 3, 2, 0, 0, 1, 1, 13);
    }

    private static void anew() {
        GroupCast x = new GroupCast(7);
        x.suspect(5, 6);
        Check.due("its number", x.node(5, 5), 5);
        x.suspect(5, 1);
        Check.dueNode("it flushes anew", x, 5, 0, 3, 0, 127, 6, 12, 66, 0, 0, 0, 1, 61);
        Check.due("flushes", x.count(4), 2);
        for (int peer : new int[] {0, 2, 3, 4}) {
            Check.dueDeliver("flush 5 and 12", x, 5, peer, 7, 7);
            Check.dueDeliver("flushed 5 and 12", x, peer, 5, 8, 8);
        }
        Check.dueNode("it syncs", x, 5, 0, 4, 0, 127, 6, 12, 66, 0, 0, 12, 1, 61);
        x.suspect(5, 0);
        Check.dueNode("it flushes anew", x, 5, 0, 3, 0, 127, 6, 19, 67, 0, 0, 12, 1, 60);
        Check.due("flushes", x.count(4), 3);
        Check.dueDeliver("sync 12 and flush 19", x, 5, 2, 9, 7);
        Check.dueDeliver("synced 12 and flushed 19", x, 2, 5, 10, 8);
        Check.dueDeliver("sync 12 and flush 19", x, 5, 3, 9, 7);
        Check.dueDeliver("synced 12 and flushed 19", x, 3, 5, 10, 8);
        Check.dueDeliver("sync 12 and flush 19", x, 5, 4, 9, 7);
        Check.dueDeliver("synced 12", x, 4, 5, 10);
        Check.due("it flushes still", x.node(5, 1), 3);
        Check.dueDeliver("flushed 19", x, 4, 5, 8);
        Check.due("it syncs", x.node(5, 1), 4);
        x.suspect(5, 4);
        Check.dueNode("no most", x, 5, 0, 0, 0, 127, 6, 19, 83, 0, 0, 19, 1, 0);
        Check.due("flushes", x.count(4), 3);
    }
}
