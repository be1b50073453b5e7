/** Promise 4: suspect. */
public final class Promise04SuspectTest {
    public static void main(String[] args) {
        noSuchNode();
        already();
        itself();
        down();
        out();
        forEver();
        refusedCallsChangeNothing();
        onlyNoted();
        theLeaderFlushes();
        theLeaderHasNoMost();
        aBlockedLeader();
        whoIsNoMember();
        theLeaderIsSuspected();
        whoHasATask();
        theLeaderByOneThatHasATask();
        whoFlushed();
        lastFlusherOfTwo();
        theFlusherOfTheView();
        theFlusherThroughAFlushOfItsOwn();
        theFlusherOfAFlushNotPromised();
        anew();
        anewOnlyForMembersToBe();
        anewWithoutMost();
        Check.end();
    }

    private static void noSuchNode() {
        Check.promise(4, "NONE: there is no such node");
        GroupCast x = new GroupCast(3);
        for (int node : new int[] {-1, 3, 7, 32, Integer.MIN_VALUE, Integer.MAX_VALUE}) {
            Check.due("suspect(" + node + ", 0)", x.suspect(node, 0), -1);
            Check.due("suspect(0, " + node + ")", x.suspect(0, node), -1);
            Check.due("suspect(" + node + ", " + node + ")", x.suspect(node, node), -1);
        }
        x.crash(1);
        Check.due("one that is down, of none", x.suspect(1, 3), -1);
        Check.due("nobody is suspected", x.node(0, 6) + x.node(1, 6) + x.node(2, 6), 0);
        for (int n = 2; n <= 7; n++) {
            GroupCast y = new GroupCast(n);
            Check.due("of the first that is none of " + n, y.suspect(0, n), -1);
            Check.due("of the last of " + n, y.suspect(0, n - 1), 1);
        }
    }

    private static void already() {
        Check.promise(4, "0: it does already");
        GroupCast x = new GroupCast(4);
        Check.due("suspect(0, 1)", x.suspect(0, 1), 1);
        Check.due("suspect(0, 1) again", x.suspect(0, 1), 0);
        Check.due("suspect(1, 0), the other way", x.suspect(1, 0), 1);
        Check.due("suspect(0, 3)", x.suspect(0, 3), 1);
        int sent = x.count(0);
        Check.due("suspect(0, 3) again", x.suspect(0, 3), 0);
        Check.due("it does not ask again", x.count(0), sent);
        Check.due("its suspects", x.node(0, 6), 10);
        GroupCast y = new GroupCast(4);
        y.suspect(3, 0);
        Check.due("suspect(3, 0) again", y.suspect(3, 0), 0);
        Check.due("it does not flush again", y.count(4), 1);
    }

    private static void itself() {
        Check.promise(4, "0: it is itself");
        for (int n = 2; n <= 7; n++) {
            GroupCast x = new GroupCast(n);
            for (int node = 0; node < n; node++) {
                Check.due("itself, node " + node + " of " + n, x.suspect(node, node), 0);
                Check.due("its suspects", x.node(node, 6), 0);
            }
            Check.dueCounts("nothing is sent", x, 0, 0, 0, 0, 0);
        }
    }

    private static void down() {
        Check.promise(4, "0: it is not live: DOWN");
        GroupCast x = new GroupCast(4);
        x.suspect(0, 1);
        x.crash(0);
        x.crash(3);
        Check.due("one that is down", x.suspect(0, 3), 0);
        Check.due("itself, one that is down", x.suspect(0, 0), 0);
        Check.due("its suspects", x.node(0, 6), 2);
        Check.due("a leader that is down", x.suspect(3, 1), 0);
        Check.dueCounts("nothing is sent", x, 0, 0, 0, 0, 0);
        Check.due("one that is down may be suspected", x.suspect(2, 0), 1);
    }

    private static void out() {
        Check.promise(4, "0: it is not live: OUT");
        GroupCast x = Scenes.withoutTheHighest(3);
        x.deliver(1, 2);
        int sent = x.count(0);
        Check.due("one that is out", x.suspect(2, 0), 0);
        Check.due("its suspects", x.node(2, 6), 0);
        Check.due("one that is out may be suspected", x.suspect(0, 2), 1);
        Check.due("nothing is sent", x.count(0), sent);
    }

    private static void forEver() {
        Check.promise(4, "(A node is suspected for ever.)");
        GroupCast x = Scenes.withoutTheHighest(4);
        Check.due("in the new view, too", x.node(2, 6), 8);
        Check.due("it does already", x.suspect(2, 3), 0);
        Check.due("the others do not", x.node(0, 6) + x.node(1, 6), 0);
    }

    private static void refusedCallsChangeNothing() {
        Check.promise(4, "0, NONE: nothing is done");
        GroupCast x = new GroupCast(4);
        x.suspect(2, 3);
        x.crash(0);
        String before = Check.seen(x, 4);
        Check.due("already", x.suspect(2, 3), 0);
        Check.due("itself", x.suspect(3, 3), 0);
        Check.due("down", x.suspect(0, 3), 0);
        Check.due("no node", x.suspect(4, 3), -1);
        Check.due("of no node", x.suspect(3, 4), -1);
        Check.dueUnchanged("after all of these", x, 4, before);
    }

    private static void onlyNoted() {
        Check.promise(4, "1: of one that is neither the leader, nor the last flusher");
        GroupCast x = new GroupCast(4);
        Check.due("suspect(0, 1)", x.suspect(0, 1), 1);
        Check.due("suspect(0, 2)", x.suspect(0, 2), 1);
        Check.dueNode("only noted", x, 0, 0, 0, 0, 15, 3, 0, 6, 0, 0, 0, 0, 0);
        Check.due("no letter", x.count(0), 0);
    }

    private static void theLeaderFlushes() {
        Check.promise(4, "if it is not blocked, the leader of its view, and that one is a member: it FLUSHES");
        GroupCast x = new GroupCast(5);
        Check.due("suspect(4, 1)", x.suspect(4, 1), 1);
        Check.dueNode("it flushes", x, 4, 0, 3, 0, 31, 4, 4, 2, 0, 0, 0, 1, 29);
        Check.due("no letter to who is suspected", x.flying(4, 1), 0);
        for (int peer : new int[] {0, 2, 3}) {
            Check.due("one letter", x.flying(4, peer), 1);
            Check.dueLetter("flush", x, 4, peer, 7, 4, 29, 0);
        }
        Check.due("flushes", x.count(4), 1);
    }

    private static void theLeaderHasNoMost() {
        Check.promise(4, "it FLUSHES: if they are not MOST of all N, its task is none");
        GroupCast x = new GroupCast(2);
        Check.due("suspect(1, 0)", x.suspect(1, 0), 1);
        Check.dueNode("one of two is not most", x, 1, 0, 0, 0, 3, 1, 0, 1, 0, 0, 0, 0, 0);
        Check.due("suspect(0, 1)", x.suspect(0, 1), 1);
        Check.dueNode("one of two is not most", x, 0, 0, 0, 0, 3, 1, 0, 2, 0, 0, 0, 0, 0);
        Check.due("letters", x.count(0), 0);
        Check.due("flushes", x.count(4), 0);
        GroupCast y = new GroupCast(4);
        y.suspect(3, 0);
        y.suspect(3, 1);
        Check.dueNode("two of four are not most", y, 3, 0, 0, 0, 15, 3, 3, 3, 0, 0, 0, 1, 0);
        Check.due("flushes", y.count(4), 1);
        GroupCast z = new GroupCast(6);
        z.suspect(5, 0);
        z.suspect(5, 1);
        Check.dueNode("four of six are most", z, 5, 0, 3, 0, 63, 5, 11, 3, 0, 0, 0, 1, 60);
        z.suspect(5, 2);
        Check.due("three of six are not", z.node(5, 1), 0);
    }

    private static void aBlockedLeader() {
        Check.promise(4, "if it is not blocked, the leader of its view: a leader that is blocked");
        GroupCast x = new GroupCast(5);
        x.suspect(0, 4);
        Check.dueDeliver("elect", x, 0, 3, 5);
        x.timeout(3);
        x.timeout(3);
        Check.dueDeliver("elect, flush 3 and 8", x, 3, 4, 5, 7, 7);
        Check.dueNode("the leader has promised 8", x, 4, 0, 0, 0, 31, 4, 8, 0, 0, 0, 0, 1, 0);
        int sent = x.count(0);
        Check.due("suspect(4, 0)", x.suspect(4, 0), 1);
        Check.dueNode("only noted", x, 4, 0, 0, 0, 31, 4, 8, 1, 0, 0, 0, 1, 0);
        Check.due("no letter", x.count(0), sent);
        Check.due("suspect(4, 3)", x.suspect(4, 3), 1);
        Check.dueNode("the flusher: it asks, so it flushes", x, 4, 0, 3, 0, 31, 4, 9, 9, 0, 0, 0, 1, 22);
        Check.due("two letters", x.count(0), sent + 2);
    }

    private static void whoIsNoMember() {
        Check.promise(4, "and that one is a member: one that is none");
        GroupCast x = Scenes.ledByAnotherThanTheFlusher();
        int sent = x.count(0);
        Check.due("suspect(3, 4)", x.suspect(3, 4), 1);
        Check.dueNode("the leader does not mind", x, 3, 0, 0, 1, 15, 3, 1, 16, 0, 0, 1, 0, 0);
        Check.due("suspect(0, 4)", x.suspect(0, 4), 1);
        Check.dueNode("no leader any more", x, 0, 0, 0, 1, 15, 3, 1, 16, 0, 0, 1, 0, 0);
        Check.due("suspect(2, 3)", x.suspect(2, 3), 1);
        Check.dueNode("it flushes", x, 2, 0, 3, 1, 15, 3, 2, 8, 0, 0, 1, 1, 7);
        Check.due("suspect(2, 4)", x.suspect(2, 4), 1);
        Check.dueNode("none of the members to be", x, 2, 0, 3, 1, 15, 3, 2, 24, 0, 0, 1, 1, 7);
        Check.due("two letters", x.count(0), sent + 2);
    }

    private static void theLeaderIsSuspected() {
        Check.promise(4, "if that one is the leader of its view, and it has no task: it ASKS");
        GroupCast x = new GroupCast(5);
        Check.due("suspect(0, 2)", x.suspect(0, 2), 1);
        Check.due("suspect(0, 4)", x.suspect(0, 4), 1);
        Check.dueNode("it asks", x, 0, 0, 1, 0, 31, 4, 0, 20, 0, 0, 0, 0, 0);
        Check.due("elect goes to 1 and 3 alone", x.count(0), 2);
        Check.dueLetter("elect", x, 0, 1, 5, 0, 0, 0);
        Check.dueLetter("elect", x, 0, 3, 5, 0, 0, 0);
        Check.due("suspect(3, 4)", x.suspect(3, 4), 1);
        Check.dueNode("with none above, it flushes at once", x, 3, 0, 3, 0, 31, 4, 3, 16, 0, 0, 0, 1, 15);
        Check.due("three letters more", x.count(0), 5);
    }

    private static void whoHasATask() {
        Check.promise(4, "and it has no task: one that has");
        GroupCast x = new GroupCast(5);
        x.suspect(0, 4);
        Check.due("letters", x.count(0), 3);
        Check.due("suspect(0, 3)", x.suspect(0, 3), 1);
        Check.dueNode("it asks as before", x, 0, 0, 1, 0, 31, 4, 0, 24, 0, 0, 0, 0, 0);
        x.deliver(0, 1);
        x.deliver(1, 0);
        Check.due("it awaits", x.node(0, 1), 2);
        Check.due("letters", x.count(0), 7);
        Check.due("suspect(0, 1)", x.suspect(0, 1), 1);
        Check.due("it awaits still", x.node(0, 1), 2);
        Check.due("letters", x.count(0), 7);
    }

    private static void theLeaderByOneThatHasATask() {
        Check.promise(4, "if that one is the leader, and it has no task: one that ASKS, or AWAITS");
        GroupCast x = new GroupCast(5);
        x.suspect(0, 4);
        Check.dueDeliver("elect", x, 0, 1, 5);
        Check.dueDeliver("elect", x, 0, 2, 5);
        Check.dueNode("node 1 asks, and suspects nobody", x, 1, 0, 1, 0, 31, 4, 0, 0, 0, 0, 0, 0, 0);
        int sent = x.count(0);
        Check.due("suspect(1, 4)", x.suspect(1, 4), 1);
        Check.due("it asks as before", x.node(1, 1), 1);
        Check.due("no letter", x.count(0), sent);
        Scenes.roundTrips(x, 2, 5, 6, 3);
        Check.dueNode("node 2 awaits, and suspects nobody", x, 2, 0, 2, 0, 31, 4, 0, 0, 0, 0, 0, 0, 0);
        sent = x.count(0);
        Check.due("suspect(2, 4)", x.suspect(2, 4), 1);
        Check.dueNode("it awaits as before", x, 2, 0, 2, 0, 31, 4, 0, 16, 0, 0, 0, 0, 0);
        Check.due("no letter", x.count(0), sent);
    }

    private static void whoFlushed() {
        Check.promise(4, "or the one from which the FLUSH came that it promised last");
        GroupCast x = new GroupCast(5);
        x.suspect(2, 4);
        x.timeout(2);
        Check.dueDeliver("flush", x, 2, 1, 7);
        Check.due("suspect(1, 3)", x.suspect(1, 3), 1);
        Check.due("neither the leader nor the flusher", x.node(1, 1), 0);
        Check.due("suspect(1, 2)", x.suspect(1, 2), 1);
        Check.dueNode("the flusher", x, 1, 0, 1, 0, 31, 4, 2, 12, 0, 0, 0, 1, 0);
        Check.due("it asks the leader that it trusts", x.letter(1, 4, 0), 5);
    }

    private static void lastFlusherOfTwo() {
        Check.promise(4, "the FLUSH that it promised last: of two");
        GroupCast x = new GroupCast(5);
        x.suspect(2, 4);
        x.timeout(2);
        x.suspect(3, 4);
        Check.dueDeliver("flush 2", x, 2, 0, 7);
        Check.dueDeliver("flush 3", x, 3, 0, 7);
        Check.due("suspect(0, 2)", x.suspect(0, 2), 1);
        Check.due("not promised last", x.node(0, 1), 0);
        Check.due("suspect(0, 3)", x.suspect(0, 3), 1);
        Check.due("promised last", x.node(0, 1), 1);
        Check.dueDeliver("flush 3", x, 3, 1, 7);
        Check.dueDeliver("flush 2, not heeded", x, 2, 1, 7);
        Check.due("suspect(1, 2)", x.suspect(1, 2), 1);
        Check.due("not promised", x.node(1, 1), 0);
        Check.due("suspect(1, 3)", x.suspect(1, 3), 1);
        Check.due("promised last", x.node(1, 1), 1);
    }

    private static void theFlusherOfTheView() {
        Check.promise(4, "the FLUSH that it promised last: after it has begun");
        GroupCast x = Scenes.ledByAnotherThanTheFlusher();
        Check.due("suspect(0, 2)", x.suspect(0, 2), 1);
        Check.due("neither", x.node(0, 1), 0);
        Check.due("suspect(0, 1)", x.suspect(0, 1), 1);
        Check.dueNode("the flush that it promised last came from it", x, 0, 0, 1, 1, 15, 3, 1, 6, 0, 0, 1, 0, 0);
        Check.due("the one above that it trusts", x.letter(0, 3, 0), 5);
        Check.due("suspect(3, 1)", x.suspect(3, 1), 1);
        Check.dueNode("the leader flushes", x, 3, 0, 3, 1, 15, 3, 3, 2, 0, 0, 1, 1, 13);
    }

    private static void anew() {
        Check.promise(4, "if it FLUSHES or SYNCS, and that one is of the members to be, it FLUSHES anew");
        GroupCast x = new GroupCast(7);
        x.suspect(5, 6);
        Check.due("its number", x.node(5, 5), 5);
        x.suspect(5, 1);
        Check.dueNode("it flushes anew", x, 5, 0, 3, 0, 127, 6, 12, 66, 0, 0, 0, 1, 61);
        Check.due("flushes", x.count(4), 2);
        for (int peer : new int[] {0, 2, 3, 4}) {
            Check.dueDeliver("flush 5 and 12", x, 5, peer, 7, 7);
            Check.dueDeliver("flushed 5 and 12", x, peer, 5, 8, 8);
        }
        Check.dueNode("it syncs", x, 5, 0, 4, 0, 127, 6, 12, 66, 0, 0, 12, 1, 61);
        x.suspect(5, 0);
        Check.dueNode("it flushes anew", x, 5, 0, 3, 0, 127, 6, 19, 67, 0, 0, 12, 1, 60);
        Check.due("flushes", x.count(4), 3);
        Check.dueDeliver("sync 12 and flush 19", x, 5, 2, 9, 7);
        Check.dueDeliver("synced 12 and flushed 19", x, 2, 5, 10, 8);
        Check.dueDeliver("sync 12 and flush 19", x, 5, 3, 9, 7);
        Check.dueDeliver("synced 12 and flushed 19", x, 3, 5, 10, 8);
        Check.dueDeliver("sync 12 and flush 19", x, 5, 4, 9, 7);
        Check.dueDeliver("synced 12", x, 4, 5, 10);
        Check.due("it flushes still", x.node(5, 1), 3);
        Check.dueDeliver("flushed 19", x, 4, 5, 8);
        Check.due("it syncs", x.node(5, 1), 4);
        x.suspect(5, 4);
        Check.dueNode("no most", x, 5, 0, 0, 0, 127, 6, 19, 83, 0, 0, 19, 1, 0);
        Check.due("flushes", x.count(4), 3);
    }

    private static void theFlusherThroughAFlushOfItsOwn() {
        Check.promise(4, "the FLUSH that it promised last: its own came since");
        GroupCast x = new GroupCast(7);
        Check.due("node 4 asks", x.suspect(4, 6), 1);
        x.timeout(4);
        Check.dueDeliver("flush 4", x, 4, 1, 7);
        Check.due("node 1 asks", x.suspect(1, 6), 1);
        x.timeout(1);
        Check.due("and flushes itself", x.node(1, 5), 8);
        x.suspect(1, 0);
        x.suspect(1, 2);
        x.suspect(1, 3);
        Check.dueNode("three of seven are not most", x, 1, 0, 0, 0, 127, 6, 22, 77, 0, 0, 0, 1, 0);
        Check.due("suspect(1, 5)", x.suspect(1, 5), 1);
        Check.due("it is neither", x.node(1, 1), 0);
        int sent = x.count(0);
        Check.due("suspect(1, 4)", x.suspect(1, 4), 1);
        Check.due("with none above it flushes, but has no most", x.node(1, 1), 0);
        Check.due("no letter", x.count(0), sent);
        GroupCast y = new GroupCast(7);
        y.suspect(4, 6);
        y.timeout(4);
        Check.dueDeliver("flush 4", y, 4, 1, 7);
        y.suspect(1, 6);
        y.timeout(1);
        y.suspect(1, 0);
        y.suspect(1, 2);
        y.suspect(1, 3);
        Check.due("suspect(1, 4)", y.suspect(1, 4), 1);
        Check.due("it asks the one above that it trusts", y.node(1, 1), 1);
    }

    private static void theFlusherOfAFlushNotPromised() {
        Check.promise(4, "the FLUSH that it promised last: one that it did not promise");
        GroupCast x = new GroupCast(4);
        x.suspect(2, 3);
        x.suspect(0, 3);
        x.timeout(0);
        Check.due("node 0 has promised 4", x.node(0, 5), 4);
        Check.dueDeliver("flush 2 is below that", x, 2, 0, 7);
        x.suspect(0, 1);
        Check.dueNode("0 and 2 are not most", x, 0, 0, 0, 0, 15, 3, 4, 10, 0, 0, 0, 1, 0);
        int sent = x.count(0);
        Check.due("suspect(0, 2)", x.suspect(0, 2), 1);
        Check.due("it does not ask", x.node(0, 1), 0);
        Check.due("no letter", x.count(0), sent);
        GroupCast y = new GroupCast(4);
        Check.due("of a node from which none came", y.suspect(1, 2), 1);
        Check.due("it does not ask", y.node(1, 1), 0);
    }

    private static void anewOnlyForMembersToBe() {
        Check.promise(4, "and that one is of the members to be: one that is not");
        GroupCast x = Scenes.ledByAnotherThanTheFlusher();
        Check.due("suspect(2, 3)", x.suspect(2, 3), 1);
        Check.due("it flushes", x.node(2, 5), 2);
        Check.due("suspect(2, 4), who is no member", x.suspect(2, 4), 1);
        Check.dueNode("it flushes as before", x, 2, 0, 3, 1, 15, 3, 2, 24, 0, 0, 1, 1, 7);
        Check.dueDeliver("flush 2", x, 2, 0, 7);
        Check.dueDeliver("flush 2", x, 2, 1, 7);
        Check.dueDeliver("flushed 2", x, 0, 2, 8);
        Check.dueDeliver("flushed 2", x, 1, 2, 8);
        Check.due("it syncs", x.node(2, 1), 4);
        GroupCast y = Scenes.withoutTheHighest(5);
        y.suspect(2, 3);
        Scenes.toSync(y, 2, 0, 1);
        Check.due("suspect(2, 4), who is no member", y.suspect(2, 4), 1);
        Check.dueNode("it syncs as before", y, 2, 0, 4, 3, 15, 3, 7, 24, 0, 0, 7, 1, 7);
    }

    private static void anewWithoutMost() {
        Check.promise(4, "it FLUSHES anew: when they are not MOST");
        GroupCast x = new GroupCast(5);
        x.suspect(4, 0);
        x.suspect(4, 1);
        Check.dueNode("three of five", x, 4, 0, 3, 0, 31, 4, 9, 3, 0, 0, 0, 1, 28);
        int sent = x.count(0);
        Check.due("suspect(4, 2)", x.suspect(4, 2), 1);
        Check.dueNode("two of five", x, 4, 0, 0, 0, 31, 4, 9, 7, 0, 0, 0, 1, 0);
        Check.due("suspect(4, 3)", x.suspect(4, 3), 1);
        Check.dueNode("one of five", x, 4, 0, 0, 0, 31, 4, 9, 15, 0, 0, 0, 1, 0);
        Check.due("no letter", x.count(0), sent);
        Check.due("flushes", x.count(4), 2);
    }
}
