/** What letters of the kinds 7 to 12 do. */
public final class ChangeOfViewTest {
    public static void main(String[] args) {
        numbers();
        lowerFlushesAreNotHeeded();
        aHigherFlushEndsATask();
        theLongestIsBest();
        theGreatestStampIsBest();
        oneHasNotSyncedYet();
        syncOfAnotherNumber();
        everyoneBegins();
        left();
        changeAfterChange();
        Check.end();
    }

    private static void numbers() {
        for (int n = 3; n <= 7; n++) {
            GroupCast x = new GroupCast(n);
            x.suspect(n - 2, n - 1);
            for (int i = 0; i < 4; i++) {
                Check.due("number " + i + " of node " + (n - 2) + " of " + n, x.node(n - 2, 5), n - 2 + i * n);
                x.timeout(n - 2);
            }
        }
        GroupCast x = new GroupCast(5);
        x.suspect(0, 4);
        x.timeout(0);
        Check.due("node 0's first is not 0", x.node(0, 5), 5);
        x.deliver(0, 3);
        x.deliver(0, 3);
        Check.due("promised", x.node(3, 5), 5);
        x.suspect(3, 4);
        Check.due("the next of node 3 above 5", x.node(3, 5), 8);
    }

    private static void lowerFlushesAreNotHeeded() {
        GroupCast x = new GroupCast(4);
        x.suspect(2, 3);
        x.suspect(3, 2);
        Check.dueDeliver("flush 3", x, 3, 0, 7);
        int sent = x.count(0);
        Check.dueDeliver("flush 2", x, 2, 0, 7);
        Check.due("the promise", x.node(0, 5), 3);
        Check.due("no answer", x.count(0), sent);
        Check.dueDeliver("flush 2", x, 2, 1, 7);
        Check.due("the promise", x.node(1, 5), 2);
        Check.dueDeliver("flush 3", x, 3, 1, 7);
        Check.due("the promise", x.node(1, 5), 3);
        Check.dueLetter("flushed 2", x, 1, 2, 8, 2, 0, 0);
        Check.dueLetter("flushed 3", x, 1, 3, 8, 3, 0, 0);
        Check.due("not to both", x.flying(0, 2), 0);
    }

    private static void aHigherFlushEndsATask() {
        GroupCast x = new GroupCast(4);
        x.suspect(2, 3);
        x.suspect(3, 1);
        Check.dueNode("node 2 flushes", x, 2, 0, 3, 0, 15, 3, 2, 8, 0, 0, 0, 1, 7);
        Check.dueDeliver("flush 2", x, 2, 0, 7);
        Check.dueDeliver("flush 3", x, 3, 2, 7);
        Check.dueNode("node 2 has promised", x, 2, 0, 0, 0, 15, 3, 3, 8, 0, 0, 0, 1, 0);
        Check.dueDeliver("flush 2", x, 2, 1, 7);
        Check.dueDeliver("flushed 2", x, 0, 2, 8);
        Check.dueDeliver("flushed 2", x, 1, 2, 8);
        Check.due("it is not kept", x.node(2, 1), 0);
        Check.due("no sync", x.flying(2, 0), 0);
    }

    private static void theLongestIsBest() {
        GroupCast x = new GroupCast(5);
        x.submit(4, 8);
        x.submit(4, 16);
        x.submit(4, 24);
        Check.dueDeliver("one", x, 4, 0, 2);
        Check.dueDeliver("three", x, 4, 1, 2, 2, 2);
        Check.dueDeliver("two", x, 4, 2, 2, 2);
        x.crash(4);
        x.suspect(3, 4);
        for (int peer = 0; peer < 3; peer++) {
            Check.dueDeliver("flush", x, 3, peer, 7);
            Check.due("it flushes", x.node(3, 1), 3);
            Check.dueDeliver("flushed", x, peer, 3, 8);
        }
        Check.dueNode("it holds the longest", x, 3, 0, 4, 0, 31, 4, 3, 16, 3, 0, 3, 1, 15);
        for (int i = 0; i < 3; i++) {
            Check.due("held(3, " + i + ")", x.held(3, i), 8 * (i + 1));
        }
        for (int peer = 0; peer < 3; peer++) {
            Check.dueLetter("sync", x, 3, peer, 9, 3, 0, 3);
            Check.dueDeliver("sync", x, 3, peer, 9);
            Check.due("held(" + peer + ", 2)", x.held(peer, 2), 24);
            Check.due("its stamp", x.node(peer, 9), 3);
            Check.due("nothing is done yet", x.depth(peer), 0);
            Check.dueDeliver("synced", x, peer, 3, 10);
        }
        Check.dueStack("the flusher begins", x, 3, 3, 2, 1);
        for (int peer = 0; peer < 3; peer++) {
            Check.dueDeliver("begin", x, 3, peer, 11);
            Check.dueStack("another begins", x, peer, 3, 2, 1);
        }
    }

    private static void theGreatestStampIsBest() {
        GroupCast x = Scenes.greaterStampAgainstLongerRow();
        Check.dueNode("it holds nothing", x, 2, 0, 4, 0, 31, 4, 12, 8, 0, 0, 12, 1, 23);
        Check.dueLetter("sync", x, 2, 0, 9, 12, 0, 0);
        Check.due("node 0 holds three", x.node(0, 7), 3);
        Check.dueDeliver("sync", x, 2, 0, 9);
        Check.dueNode("node 0 holds none", x, 0, 0, 0, 0, 31, 4, 12, 0, 0, 0, 12, 1, 0);
        Check.dueDeliver("sync", x, 2, 1, 9);
        Check.dueDeliver("sync", x, 2, 4, 9);
        Check.dueDeliver("synced", x, 0, 2, 10);
        Check.dueDeliver("synced", x, 4, 2, 10);
        Check.dueDeliver("synced", x, 1, 2, 10);
        Check.dueNode("node 2 begins", x, 2, 0, 0, 12, 23, 4, 12, 8, 0, 0, 12, 0, 0);
        Check.dueLetter("node 3 is left behind", x, 2, 3, 12, 0, 0, 0);
        Check.dueDeliver("begin", x, 2, 4, 11);
        Check.dueNode("node 4 leads still", x, 4, 0, 0, 12, 23, 4, 12, 0, 0, 0, 12, 0, 0);
        whatWasToldBeforeCountsNoMore(x);
        itsOwnStampIsTheGreatest();
    }

    /** Node 0 told the leader of three acts in the view before, of which none is left. */
    private static void whatWasToldBeforeCountsNoMore(GroupCast x) {
        Check.dueDeliver("begin", x, 2, 0, 11);
        Check.dueDeliver("begin", x, 2, 1, 11);
        Check.due("submit", x.submit(4, 8), 1);
        Check.dueDeliver("orders, flush 4, the new order", x, 4, 1, 2, 2, 2, 7, 2);
        Check.dueDeliver("held", x, 1, 4, 3);
        Check.due("two of five hold it", x.node(4, 8), 0);
        Check.dueDeliver("flush 4, the new order", x, 4, 0, 7, 2);
        Check.dueDeliver("held", x, 0, 4, 3);
        Check.dueStack("three of five hold it", x, 4, 1);
    }

    private static void itsOwnStampIsTheGreatest() {
        GroupCast x = Scenes.greaterStampAndLongerRow();
        x.suspect(1, 3);
        x.timeout(1);
        Check.dueNode("node 1 flushes", x, 1, 0, 3, 0, 31, 4, 11, 8, 0, 0, 8, 1, 23);
        Check.dueDeliver("flush 11", x, 1, 0, 7);
        Check.dueDeliver("elect, flush 11", x, 1, 2, 5, 7);
        Check.dueDeliver("elect, flush 11", x, 1, 4, 5, 7);
        Check.dueDeliver("flushed 11", x, 0, 1, 8);
        Check.dueDeliver("wait, flushed 11", x, 2, 1, 6, 8);
        Check.dueDeliver("orders, wait, flush 4, flushed 11", x, 4, 1, 2, 2, 2, 6, 7, 8);
        Check.dueNode("it holds nothing", x, 1, 0, 4, 0, 31, 4, 11, 8, 0, 0, 11, 1, 23);
    }

    private static void oneHasNotSyncedYet() {
        GroupCast x = new GroupCast(4);
        x.suspect(2, 3);
        for (int peer = 0; peer < 2; peer++) {
            Check.dueDeliver("flush", x, 2, peer, 7);
            Check.dueDeliver("flushed", x, peer, 2, 8);
        }
        Check.dueDeliver("sync", x, 2, 1, 9);
        Check.dueDeliver("synced", x, 1, 2, 10);
        Check.dueNode("it syncs", x, 2, 0, 4, 0, 15, 3, 2, 8, 0, 0, 2, 1, 7);
        Check.due("no begin", x.flying(2, 1), 0);
        Check.due("no left", x.flying(2, 3), 0);
        Check.dueDeliver("sync", x, 2, 0, 9);
        Check.dueDeliver("synced", x, 0, 2, 10);
        Check.dueNode("it begins", x, 2, 0, 0, 2, 7, 2, 2, 8, 0, 0, 2, 0, 0);
    }

    private static void syncOfAnotherNumber() {
        GroupCast x = new GroupCast(4);
        x.submit(3, 8);
        Check.dueDeliver("order", x, 3, 2, 2);
        x.suspect(2, 3);
        for (int peer = 0; peer < 2; peer++) {
            Check.dueDeliver("flush 2", x, 2, peer, 7);
            Check.dueDeliver("flushed 2", x, peer, 2, 8);
        }
        x.suspect(3, 2);
        Check.dueDeliver("order, flush 3", x, 3, 0, 2, 7);
        int sent = x.count(0);
        Check.dueDeliver("sync 2", x, 2, 0, 9);
        Check.dueNode("is not heeded", x, 0, 0, 0, 0, 15, 3, 3, 0, 0, 0, 0, 1, 0);
        Check.due("no answer", x.count(0), sent);
        Check.dueDeliver("sync 2", x, 2, 1, 9);
        Check.dueNode("is heeded", x, 1, 0, 0, 0, 15, 3, 2, 0, 1, 0, 2, 1, 0);
    }

    private static void everyoneBegins() {
        GroupCast x = Scenes.withoutTheHighest(7);
        for (int node = 0; node < 6; node++) {
            Check.dueNode("begun", x, node, 0, 0, 5, 63, 5, 5, node == 5 ? 64 : 0, 0, 0, 5, 0, 0);
        }
        Check.dueNode("left behind", x, 6, 0, 0, 0, 127, 6, 0, 0, 0, 0, 0, 0, 0);
        Check.due("begins", x.count(3), 6);
        Check.due("flushes", x.count(4), 1);
        Check.due("letters", x.count(0), 26);
        GroupCast y = new GroupCast(4);
        y.suspect(3, 0);
        y.timeout(3);
        Check.dueDeliver("flush 3 and 7", y, 3, 1, 7, 7);
        Check.dueDeliver("flush 3 and 7", y, 3, 2, 7, 7);
        Check.dueDeliver("flushed 3 and 7", y, 1, 3, 8, 8);
        Check.dueDeliver("flushed 3 and 7", y, 2, 3, 8, 8);
        Check.dueDeliver("sync 7", y, 3, 1, 9);
        Check.dueDeliver("sync 7", y, 3, 2, 9);
        Check.dueDeliver("synced 7", y, 1, 3, 10);
        Check.dueDeliver("synced 7", y, 2, 3, 10);
        y.suspect(2, 3);
        Check.dueNode("node 2 flushes anew with 0", y, 2, 0, 3, 0, 15, 3, 10, 8, 0, 0, 7, 1, 7);
        Check.dueDeliver("begin 7", y, 3, 2, 11);
        Check.dueNode("another number is promised", y, 2, 0, 3, 0, 15, 3, 10, 8, 0, 0, 7, 1, 7);
        Check.due("begins", y.count(3), 1);
    }

    private static void left() {
        GroupCast x = new GroupCast(7);
        x.suspect(4, 6);
        x.suspect(4, 1);
        x.suspect(4, 5);
        x.timeout(4);
        Check.due("members to be", x.node(4, 11), 29);
        Check.dueDeliver("elect to one that is left behind", x, 4, 5, 5);
        for (int peer : new int[] {0, 2, 3}) {
            Check.dueDeliver("flush", x, 4, peer, 7);
            Check.dueDeliver("flushed", x, peer, 4, 8);
        }
        for (int peer : new int[] {0, 2, 3}) {
            Check.dueDeliver("sync", x, 4, peer, 9);
            Check.dueDeliver("synced", x, peer, 4, 10);
        }
        for (int peer : new int[] {1, 5, 6}) {
            Check.dueLetter("left", x, 4, peer, 12, 0, 0, 0);
        }
        Check.dueDeliver("left", x, 4, 5, 12);
        Check.dueNode("all but its life stays", x, 5, 2, 1, 0, 127, 6, 0, 0, 0, 0, 0, 0, 0);
        Check.dueDeliver("begin", x, 4, 0, 11);
        Check.dueNode("begun", x, 0, 0, 0, 4, 29, 4, 4, 0, 0, 0, 4, 0, 0);
    }

    private static void changeAfterChange() {
        GroupCast x = Scenes.withoutTheHighest(5);
        x.submit(3, 56);
        for (int peer = 0; peer < 3; peer++) {
            Check.dueDeliver("order", x, 3, peer, 2);
        }
        x.suspect(2, 3);
        Check.dueNode("the next above it flushes", x, 2, 0, 3, 3, 15, 3, 7, 8, 1, 0, 3, 1, 7);
        Scenes.changeView(x, 2, 1);
        for (int node = 0; node < 3; node++) {
            Check.dueNode("begun", x, node, 0, 0, 7, 7, 2, 7, node == 2 ? 8 : 0, 1, 1, 7, 0, 0);
            Check.dueStack("carried out", x, node, 7);
        }
        Check.dueDeliver("held of the view before, left", x, 2, 3, 3, 12);
        Check.due("who left before is told no more", x.flying(2, 4), 0);
        Check.dueDeliver("held of the view before", x, 0, 3, 23);
        x.suspect(2, 1);
        Check.dueNode("no most", x, 2, 0, 0, 7, 7, 2, 7, 10, 1, 1, 7, 0, 0);
    }
}
