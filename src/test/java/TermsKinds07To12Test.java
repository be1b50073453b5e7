/** Terms: what letters of the kinds 7 to 12 do. */
public final class TermsKinds07To12Test {
    public static void main(String[] args) {
        flushAbove();
        flushBelow();
        flushBelowTheView();
        flushEndsATask();
        flushEndsAFlush();
        flushEndsASync();
        flushedByAll();
        flushedWithAnotherNumber();
        flushedToOneThatDoesNotFlush();
        theLongestIsBest();
        itsOwnIsTheLongest();
        allHoldNothing();
        theGreatestStampIsBest();
        itsOwnStampIsTheGreatest();
        syncTells();
        syncOfAnotherNumber();
        syncLeavesATask();
        oneHasNotSyncedYet();
        syncedWithAnotherNumber();
        syncedToOneThatDoesNotSync();
        everyoneBegins();
        beginOfAnotherNumber();
        beginCarriesAllOut();
        beginEndsATask();
        left();
        leftWhateverItDoes();
        changeAfterChange();
        Check.end();
    }

    private static void flushAbove() {
        Check.terms("7 FLUSH: if the number is above its promise: that is its promise, and 8 FLUSHED goes back");
        GroupCast x = new GroupCast(3);
        x.submit(2, 8);
        x.submit(2, 16);
        Check.dueDeliver("orders", x, 2, 0, 2, 2);
        x.suspect(1, 2);
        Check.dueDeliver("flush", x, 1, 0, 7);
        Check.dueNode("its promise", x, 0, 0, 0, 0, 7, 2, 1, 0, 2, 0, 0, 1, 0);
        Check.dueLetter("the number, its stamp, all it holds", x, 0, 1, 8, 1, 0, 2);
        Check.due("to nobody else but for held", x.flying(0, 2), 2);
    }

    private static void flushBelow() {
        Check.terms("7 FLUSH: if the number is above its promise: one that is not");
        GroupCast x = new GroupCast(4);
        x.suspect(2, 3);
        x.suspect(3, 2);
        Check.dueDeliver("flush 3", x, 3, 0, 7);
        int sent = x.count(0);
        Check.dueDeliver("flush 2", x, 2, 0, 7);
        Check.due("the promise", x.node(0, 5), 3);
        Check.due("no answer", x.count(0), sent);
        Check.dueDeliver("flush 2", x, 2, 1, 7);
        Check.due("the promise", x.node(1, 5), 2);
        Check.dueDeliver("flush 3", x, 3, 1, 7);
        Check.due("the promise", x.node(1, 5), 3);
        Check.dueLetter("flushed 2", x, 1, 2, 8, 2, 0, 0);
        Check.dueLetter("flushed 3", x, 1, 3, 8, 3, 0, 0);
        Check.due("not to both", x.flying(0, 2), 0);
    }

    private static void flushBelowTheView() {
        Check.terms("7 FLUSH: if the number is above its promise: one that is below its view's number");
        GroupCast x = new GroupCast(4);
        x.suspect(2, 3);
        x.suspect(3, 2);
        Scenes.toSync(x, 3, 0, 1);
        Scenes.roundTrips(x, 3, 9, 10, 0, 1);
        Check.dueDeliver("begin 3", x, 3, 0, 11);
        int sent = x.count(0);
        Check.dueDeliver("flush 2", x, 2, 0, 7);
        Check.dueNode("is not heeded", x, 0, 0, 0, 3, 11, 3, 3, 0, 0, 0, 3, 0, 0);
        Check.due("no answer", x.count(0), sent);
    }

    private static void flushEndsATask() {
        Check.terms("7 FLUSH: its task is none: of one that ASKS, or AWAITS");
        GroupCast x = new GroupCast(5);
        x.suspect(3, 4);
        x.suspect(0, 4);
        Check.due("it asks", x.node(0, 1), 1);
        Check.dueDeliver("flush", x, 3, 0, 7);
        Check.dueNode("no task", x, 0, 0, 0, 0, 31, 4, 3, 16, 0, 0, 0, 1, 0);
        x.suspect(1, 4);
        Scenes.roundTrips(x, 1, 5, 6, 2);
        Check.due("it awaits", x.node(1, 1), 2);
        Check.dueDeliver("flush", x, 3, 1, 7);
        Check.dueNode("no task", x, 1, 0, 0, 0, 31, 4, 3, 16, 0, 0, 0, 1, 0);
    }

    private static void flushEndsAFlush() {
        Check.terms("7 FLUSH: its task is none: of one that FLUSHES");
        GroupCast x = new GroupCast(4);
        x.suspect(2, 3);
        x.suspect(3, 1);
        Check.dueNode("node 2 flushes", x, 2, 0, 3, 0, 15, 3, 2, 8, 0, 0, 0, 1, 7);
        Check.dueDeliver("flush 2", x, 2, 0, 7);
        Check.dueDeliver("flush 3", x, 3, 2, 7);
        Check.dueNode("node 2 has promised", x, 2, 0, 0, 0, 15, 3, 3, 8, 0, 0, 0, 1, 0);
        Check.dueDeliver("flush 2", x, 2, 1, 7);
        Check.dueDeliver("flushed 2", x, 0, 2, 8);
        Check.dueDeliver("flushed 2", x, 1, 2, 8);
        Check.due("it is not kept", x.node(2, 1), 0);
        Check.due("no sync", x.flying(2, 0), 0);
    }

    private static void flushEndsASync() {
        Check.terms("7 FLUSH: its task is none: of one that SYNCS");
        GroupCast x = new GroupCast(5);
        x.suspect(2, 4);
        x.suspect(2, 3);
        x.timeout(2);
        Scenes.toSync(x, 2, 0, 1);
        x.suspect(3, 4);
        Check.dueDeliver("elect of node 2", x, 2, 3, 5);
        Check.dueDeliver("flush 3, by stamp 2", x, 3, 2, 7);
        Check.dueNode("no task", x, 2, 0, 0, 0, 31, 4, 3, 24, 0, 0, 2, 1, 0);
        Check.dueLetter("flushed", x, 2, 3, 8, 3, 2, 0);
        Scenes.roundTrips(x, 2, 9, 10, 0, 1);
        Check.dueNode("synced is not heeded", x, 2, 0, 0, 0, 31, 4, 3, 24, 0, 0, 2, 1, 0);
        Check.due("no begin", x.flying(2, 0) + x.flying(2, 1), 0);
    }

    private static void flushedByAll() {
        Check.terms("8 FLUSHED: When all of the members to be have sent it (itself has at once)");
        for (int n = 3; n <= 7; n++) {
            GroupCast x = new GroupCast(n);
            x.suspect(n - 2, n - 1);
            for (int peer = n - 3; peer >= 0; peer--) {
                Check.due("not before node " + peer + " of " + n, x.node(n - 2, 1), 3);
                Scenes.roundTrips(x, n - 2, 7, 8, peer);
            }
            Check.due("after the last of " + n, x.node(n - 2, 1), 4);
            for (int peer = 0; peer < n - 2; peer++) {
                Check.dueLetter("sync", x, n - 2, peer, 9, n - 2, 0, 0);
            }
            Check.due("none to who is left behind", x.flying(n - 2, n - 1), 0);
        }
    }

    private static void flushedWithAnotherNumber() {
        Check.terms("8 FLUSHED: if it FLUSHES with that number as its promise: with another");
        GroupCast x = new GroupCast(3);
        x.suspect(1, 2);
        Check.dueDeliver("flush 1", x, 1, 0, 7);
        x.timeout(1);
        Check.dueDeliver("flushed 1", x, 0, 1, 8);
        Check.dueNode("it flushes by 4", x, 1, 0, 3, 0, 7, 2, 4, 4, 0, 0, 0, 1, 3);
        Scenes.toSync(x, 1, 0);
    }

    private static void flushedToOneThatDoesNotFlush() {
        Check.terms("8 FLUSHED: if it FLUSHES: one that does not any more");
        GroupCast x = new GroupCast(3);
        x.suspect(1, 2);
        Check.dueDeliver("flush 1", x, 1, 0, 7);
        x.suspect(1, 0);
        Check.dueNode("no task, but that promise", x, 1, 0, 0, 0, 7, 2, 1, 5, 0, 0, 0, 1, 0);
        int sent = x.count(0);
        Check.dueDeliver("flushed 1", x, 0, 1, 8);
        Check.dueNode("is not heeded", x, 1, 0, 0, 0, 7, 2, 1, 5, 0, 0, 0, 1, 0);
        Check.due("no sync", x.count(0), sent);
    }

    private static void theLongestIsBest() {
        Check.terms("8 FLUSHED: the BEST has the greatest stamp, of the same the longest");
        GroupCast x = new GroupCast(5);
        x.submit(4, 8);
        x.submit(4, 16);
        x.submit(4, 24);
        Check.dueDeliver("one", x, 4, 0, 2);
        Check.dueDeliver("three", x, 4, 1, 2, 2, 2);
        Check.dueDeliver("two", x, 4, 2, 2, 2);
        x.crash(4);
        x.suspect(3, 4);
        for (int peer = 0; peer < 3; peer++) {
            Check.dueDeliver("flush", x, 3, peer, 7);
            Check.due("it flushes", x.node(3, 1), 3);
            Check.dueDeliver("flushed", x, peer, 3, 8);
        }
        Check.dueNode("it holds the longest", x, 3, 0, 4, 0, 31, 4, 3, 16, 3, 0, 3, 1, 15);
        for (int i = 0; i < 3; i++) {
            Check.due("held(3, " + i + ")", x.held(3, i), 8 * (i + 1));
        }
        for (int peer = 0; peer < 3; peer++) {
            Check.dueLetter("sync", x, 3, peer, 9, 3, 0, 3);
            Check.dueDeliver("sync", x, 3, peer, 9);
            Check.due("held(" + peer + ", 2)", x.held(peer, 2), 24);
            Check.due("its stamp", x.node(peer, 9), 3);
            Check.due("nothing is done yet", x.depth(peer), 0);
            Check.dueDeliver("synced", x, peer, 3, 10);
        }
        Check.dueStack("the flusher begins", x, 3, 3, 2, 1);
        for (int peer = 0; peer < 3; peer++) {
            Check.dueDeliver("begin", x, 3, peer, 11);
            Check.dueStack("another begins", x, peer, 3, 2, 1);
        }
    }

    private static void itsOwnIsTheLongest() {
        Check.terms("8 FLUSHED: the BEST: its own, when it is the longest");
        GroupCast x = new GroupCast(4);
        x.submit(3, 8);
        x.submit(3, 16);
        Check.dueDeliver("one", x, 3, 0, 2);
        Check.dueDeliver("two", x, 3, 2, 2, 2);
        x.suspect(2, 3);
        Scenes.toSync(x, 2, 0, 1);
        Check.dueHeld("its own", x, 2, 8, 16);
        Check.dueLetter("sync", x, 2, 0, 9, 2, 0, 2);
        Check.dueDeliver("sync", x, 2, 0, 9);
        Check.dueHeld("node 0", x, 0, 8, 16);
        Check.dueDeliver("sync", x, 2, 1, 9);
        Check.dueHeld("node 1, which held none", x, 1, 8, 16);
    }

    private static void allHoldNothing() {
        Check.terms("8 FLUSHED: the BEST: nothing, when nobody holds anything");
        GroupCast x = Scenes.withLetter(9);
        Check.dueNode("it holds nothing, by the number", x, 1, 0, 4, 0, 7, 2, 1, 4, 0, 0, 1, 1, 3);
        Check.dueLetter("sync", x, 1, 0, 9, 1, 0, 0);
    }

    private static void theGreatestStampIsBest() {
        Check.terms("8 FLUSHED: the BEST has the greatest stamp, though others hold more");
        GroupCast x = Scenes.greaterStampAgainstLongerRow(true);
        Check.dueNode("it holds nothing", x, 2, 0, 4, 0, 31, 4, 12, 8, 0, 0, 12, 1, 23);
        Check.dueLetter("sync", x, 2, 0, 9, 12, 0, 0);
        Check.due("node 0 holds three", x.node(0, 7), 3);
        Check.dueDeliver("sync", x, 2, 0, 9);
        Check.dueNode("node 0 holds none", x, 0, 0, 0, 0, 31, 4, 12, 0, 0, 0, 12, 1, 0);
        Check.dueDeliver("sync", x, 2, 1, 9);
        Check.dueDeliver("sync", x, 2, 4, 9);
        Check.dueDeliver("synced", x, 0, 2, 10);
        Check.dueDeliver("synced", x, 4, 2, 10);
        Check.dueDeliver("synced", x, 1, 2, 10);
        Check.dueNode("node 2 begins", x, 2, 0, 0, 12, 23, 4, 12, 8, 0, 0, 12, 0, 0);
        Check.dueLetter("node 3 is left behind", x, 2, 3, 12, 0, 0, 0);
        Check.dueDeliver("begin", x, 2, 4, 11);
        Check.dueNode("node 4 leads still", x, 4, 0, 0, 12, 23, 4, 12, 0, 0, 0, 12, 0, 0);
        whatWasToldBeforeCountsNoMore(x);
    }

    /** Node 0 told the leader of three acts in the view before, of which none is left. */
    private static void whatWasToldBeforeCountsNoMore(GroupCast x) {
        Check.terms("3 HELD: what was told before, in another view, counts no more");
        Check.dueDeliver("begin", x, 2, 0, 11);
        Check.dueDeliver("begin", x, 2, 1, 11);
        Check.due("submit", x.submit(4, 8), 1);
        Check.dueDeliver("orders, flush 4, the new order", x, 4, 1, 2, 2, 2, 7, 2);
        Check.dueDeliver("held", x, 1, 4, 3);
        Check.due("two of five hold it", x.node(4, 8), 0);
        Check.dueDeliver("flush 4, the new order", x, 4, 0, 7, 2);
        Check.dueDeliver("held", x, 0, 4, 3);
        Check.dueStack("three of five hold it", x, 4, 1);
    }

    private static void itsOwnStampIsTheGreatest() {
        Check.terms("8 FLUSHED: the BEST: its own, when its stamp is the greatest");
        GroupCast x = Scenes.greaterStampAndLongerRow(true);
        x.suspect(1, 3);
        x.timeout(1);
        Check.dueNode("node 1 flushes", x, 1, 0, 3, 0, 31, 4, 11, 8, 0, 0, 8, 1, 23);
        Check.dueDeliver("flush 11", x, 1, 0, 7);
        Check.dueDeliver("elect, flush 11", x, 1, 2, 5, 7);
        Check.dueDeliver("elect, flush 11", x, 1, 4, 5, 7);
        Check.dueDeliver("flushed 11", x, 0, 1, 8);
        Check.dueDeliver("wait, flushed 11", x, 2, 1, 6, 8);
        Check.dueDeliver("orders, wait, flush 4, flushed 11", x, 4, 1, 2, 2, 2, 6, 7, 8);
        Check.dueNode("it holds nothing", x, 1, 0, 4, 0, 31, 4, 11, 8, 0, 0, 11, 1, 23);
    }

    private static void syncTells() {
        Check.terms("9 SYNC: it holds what is told, its stamp is the number, and 10 SYNCED (the number) goes back");
        GroupCast x = new GroupCast(3);
        x.submit(2, 8);
        x.submit(2, 16);
        Check.dueDeliver("orders", x, 2, 1, 2, 2);
        Check.dueDeliver("order", x, 2, 0, 2);
        x.suspect(1, 2);
        Scenes.toSync(x, 1, 0);
        Check.dueHeld("before", x, 0, 8);
        Check.dueDeliver("sync", x, 1, 0, 9);
        Check.dueHeld("after", x, 0, 8, 16);
        Check.dueNode("by the number; nothing is carried out", x, 0, 0, 0, 0, 7, 2, 1, 0, 2, 0, 1, 1, 0);
        Check.dueLetter("synced", x, 0, 1, 10, 1, 0, 0);
    }

    private static void syncOfAnotherNumber() {
        Check.terms("9 SYNC: if the number is its promise: another");
        GroupCast x = new GroupCast(4);
        x.submit(3, 8);
        Check.dueDeliver("order", x, 3, 2, 2);
        x.suspect(2, 3);
        for (int peer = 0; peer < 2; peer++) {
            Check.dueDeliver("flush 2", x, 2, peer, 7);
            Check.dueDeliver("flushed 2", x, peer, 2, 8);
        }
        x.suspect(3, 2);
        Check.dueDeliver("order, flush 3", x, 3, 0, 2, 7);
        int sent = x.count(0);
        Check.dueDeliver("sync 2", x, 2, 0, 9);
        Check.dueNode("is not heeded", x, 0, 0, 0, 0, 15, 3, 3, 0, 0, 0, 0, 1, 0);
        Check.due("no answer", x.count(0), sent);
        Check.dueDeliver("sync 2", x, 2, 1, 9);
        Check.dueNode("is heeded", x, 1, 0, 0, 0, 15, 3, 2, 0, 1, 0, 2, 1, 0);
    }

    private static void syncLeavesATask() {
        Check.terms("9 SYNC: it holds what is told: its task is as it was");
        GroupCast x = new GroupCast(4);
        x.suspect(0, 3);
        x.timeout(0);
        Check.dueDeliver("elect, flush", x, 0, 1, 5, 7);
        Check.dueDeliver("elect, flush", x, 0, 2, 5, 7);
        Check.dueDeliver("wait, flushed", x, 1, 0, 6, 8);
        Check.dueDeliver("wait, flushed", x, 2, 0, 6, 8);
        Check.dueDeliver("node 1 had asked node 2", x, 1, 2, 5);
        Check.due("so that node 2 asks", x.node(2, 1), 1);
        Check.dueDeliver("sync", x, 0, 2, 9);
        Check.dueNode("it asks still", x, 2, 0, 1, 0, 15, 3, 4, 0, 0, 0, 4, 1, 0);
    }

    private static void oneHasNotSyncedYet() {
        Check.terms("10 SYNCED: when all others of the members to be have sent it");
        GroupCast x = new GroupCast(4);
        x.suspect(2, 3);
        for (int peer = 0; peer < 2; peer++) {
            Check.dueDeliver("flush", x, 2, peer, 7);
            Check.dueDeliver("flushed", x, peer, 2, 8);
        }
        Check.dueDeliver("sync", x, 2, 1, 9);
        Check.dueDeliver("synced", x, 1, 2, 10);
        Check.dueNode("it syncs", x, 2, 0, 4, 0, 15, 3, 2, 8, 0, 0, 2, 1, 7);
        Check.due("no begin", x.flying(2, 1), 0);
        Check.due("no left", x.flying(2, 3), 0);
        Check.dueDeliver("sync", x, 2, 0, 9);
        Check.dueDeliver("synced", x, 0, 2, 10);
        Check.dueNode("it begins", x, 2, 0, 0, 2, 7, 2, 2, 8, 0, 0, 2, 0, 0);
    }

    private static void syncedWithAnotherNumber() {
        Check.terms("10 SYNCED: if it SYNCS with that number as its promise: with another");
        GroupCast x = Scenes.withLetter(10);
        x.timeout(1);
        Check.dueDeliver("flush 4", x, 1, 0, 7);
        Check.dueDeliver("synced 1", x, 0, 1, 10);
        Check.dueNode("it flushes by 4", x, 1, 0, 3, 0, 7, 2, 4, 4, 0, 0, 1, 1, 3);
        Check.dueDeliver("flushed 4", x, 0, 1, 8);
        Check.due("it syncs", x.node(1, 1), 4);
        Check.due("and begins not", x.node(1, 2), 0);
    }

    private static void syncedToOneThatDoesNotSync() {
        Check.terms("10 SYNCED: if it SYNCS: one that does not any more");
        GroupCast x = Scenes.withLetter(10);
        x.suspect(1, 0);
        Check.dueNode("no most", x, 1, 0, 0, 0, 7, 2, 1, 5, 0, 0, 1, 1, 0);
        int sent = x.count(0);
        Check.dueDeliver("synced 1", x, 0, 1, 10);
        Check.dueNode("is not heeded", x, 1, 0, 0, 0, 7, 2, 1, 5, 0, 0, 1, 1, 0);
        Check.dueCounts("no begin, no left", x, sent, 0, 0, 0);
    }

    private static void everyoneBegins() {
        Check.terms("11 BEGIN: its view is that number with those members; all it holds is carried out; its task is none");
        GroupCast x = Scenes.withoutTheHighest(7);
        for (int node = 0; node < 6; node++) {
            Check.dueNode("begun", x, node, 0, 0, 5, 63, 5, 5, node == 5 ? 64 : 0, 0, 0, 5, 0, 0);
        }
        Check.dueNode("left behind", x, 6, 0, 0, 0, 127, 6, 0, 0, 0, 0, 0, 0, 0);
        Check.due("begins", x.count(3), 6);
        Check.due("flushes", x.count(4), 1);
        Check.due("letters", x.count(0), 26);
    }

    private static void beginOfAnotherNumber() {
        Check.terms("11 BEGIN: if the number is its promise: another");
        GroupCast y = new GroupCast(4);
        y.suspect(3, 0);
        y.timeout(3);
        Check.dueDeliver("flush 3 and 7", y, 3, 1, 7, 7);
        Check.dueDeliver("flush 3 and 7", y, 3, 2, 7, 7);
        Check.dueDeliver("flushed 3 and 7", y, 1, 3, 8, 8);
        Check.dueDeliver("flushed 3 and 7", y, 2, 3, 8, 8);
        Check.dueDeliver("sync 7", y, 3, 1, 9);
        Check.dueDeliver("sync 7", y, 3, 2, 9);
        Check.dueDeliver("synced 7", y, 1, 3, 10);
        Check.dueDeliver("synced 7", y, 2, 3, 10);
        y.suspect(2, 3);
        Check.dueNode("node 2 flushes anew with 0", y, 2, 0, 3, 0, 15, 3, 10, 8, 0, 0, 7, 1, 7);
        Check.dueDeliver("begin 7", y, 3, 2, 11);
        Check.dueNode("another number is promised", y, 2, 0, 3, 0, 15, 3, 10, 8, 0, 0, 7, 1, 7);
        Check.due("begins", y.count(3), 1);
    }

    private static void beginCarriesAllOut() {
        Check.terms("11 BEGIN: all it holds is carried out");
        GroupCast x = new GroupCast(3);
        x.submit(2, 8);
        x.submit(2, 16);
        x.submit(2, 24);
        Check.dueDeliver("orders", x, 2, 0, 2, 2, 2);
        Check.dueDeliver("held of one", x, 0, 2, 3);
        Check.dueDeliver("do 1", x, 2, 0, 4);
        x.suspect(1, 2);
        Scenes.toSync(x, 1, 0);
        Check.dueDeliver("sync", x, 1, 0, 9);
        Check.due("one is carried out", x.node(0, 8), 1);
        Check.dueDeliver("synced", x, 0, 1, 10);
        Check.dueStack("three, by the flusher", x, 1, 3, 2, 1);
        Check.due("one is carried out", x.node(0, 8), 1);
        Check.dueDeliver("begin", x, 1, 0, 11);
        Check.dueStack("three", x, 0, 3, 2, 1);
        Check.due("so many", x.node(0, 8), 3);
        Check.dueCounts("one by node 2, three by 0 and by 1", x, x.count(0), 0, 7, 2, 1);
    }

    private static void beginEndsATask() {
        Check.terms("11 BEGIN: its task is none");
        GroupCast x = new GroupCast(3);
        x.suspect(0, 2);
        x.timeout(0);
        Check.dueDeliver("elect, flush", x, 0, 1, 5, 7);
        Check.dueDeliver("wait, flushed", x, 1, 0, 6, 8);
        Scenes.roundTrips(x, 0, 9, 10, 1);
        x.suspect(1, 0);
        Check.due("node 1 asks node 2", x.node(1, 1), 1);
        Check.dueDeliver("begin", x, 0, 1, 11);
        Check.dueNode("no task", x, 1, 0, 0, 3, 3, 1, 3, 1, 0, 0, 3, 0, 0);
    }

    private static void left() {
        Check.terms("12 LEFT: to all members of its view that are none of the new one; the node is OUT");
        GroupCast x = new GroupCast(7);
        x.suspect(4, 6);
        x.suspect(4, 1);
        x.suspect(4, 5);
        x.timeout(4);
        Check.due("members to be", x.node(4, 11), 29);
        Check.dueDeliver("elect to one that is left behind", x, 4, 5, 5);
        for (int peer : new int[] {0, 2, 3}) {
            Check.dueDeliver("flush", x, 4, peer, 7);
            Check.dueDeliver("flushed", x, peer, 4, 8);
        }
        for (int peer : new int[] {0, 2, 3}) {
            Check.dueDeliver("sync", x, 4, peer, 9);
            Check.dueDeliver("synced", x, peer, 4, 10);
        }
        for (int peer : new int[] {1, 5, 6}) {
            Check.dueLetter("left", x, 4, peer, 12, 0, 0, 0);
        }
        Check.dueDeliver("left", x, 4, 5, 12);
        Check.dueNode("all but its life stays", x, 5, 2, 1, 0, 127, 6, 0, 0, 0, 0, 0, 0, 0);
        Check.dueDeliver("begin", x, 4, 0, 11);
        Check.dueNode("begun", x, 0, 0, 0, 4, 29, 4, 4, 0, 0, 0, 4, 0, 0);
    }

    private static void leftWhateverItDoes() {
        Check.terms("12 LEFT: the node is OUT: whatever it is at");
        GroupCast x = new GroupCast(3);
        x.submit(2, 8);
        x.suspect(1, 2);
        Check.dueDeliver("flush", x, 1, 0, 7);
        Check.dueDeliver("order to one that is blocked", x, 2, 0, 2);
        Check.dueDeliver("flushed", x, 0, 1, 8);
        Scenes.roundTrips(x, 1, 9, 10, 0);
        x.suspect(2, 1);
        Check.due("the old leader flushes", x.node(2, 1), 3);
        Check.dueDeliver("left", x, 1, 2, 12);
        Check.dueNode("out, and at its flush still", x, 2, 2, 3, 0, 7, 2, 2, 2, 1, 0, 0, 1, 5);
    }

    private static void changeAfterChange() {
        Check.terms("12 LEFT: to all members of its view: not to who left before");
        GroupCast x = Scenes.withoutTheHighest(5);
        x.submit(3, 56);
        for (int peer = 0; peer < 3; peer++) {
            Check.dueDeliver("order", x, 3, peer, 2);
        }
        x.suspect(2, 3);
        Check.dueNode("the next above it flushes", x, 2, 0, 3, 3, 15, 3, 7, 8, 1, 0, 3, 1, 7);
        Scenes.changeView(x, 2, 1);
        for (int node = 0; node < 3; node++) {
            Check.dueNode("begun", x, node, 0, 0, 7, 7, 2, 7, node == 2 ? 8 : 0, 1, 1, 7, 0, 0);
            Check.dueStack("carried out", x, node, 7);
        }
        Check.dueDeliver("held of the view before, left", x, 2, 3, 3, 12);
        Check.due("who left before is told no more", x.flying(2, 4), 0);
        Check.dueDeliver("held of the view before", x, 0, 3, 23);
        x.suspect(2, 1);
        Check.dueNode("no most", x, 2, 0, 0, 7, 7, 2, 7, 10, 1, 1, 7, 0, 0);
    }
}
