/** What letters of the kinds 1 to 6 do. */
public final class LettersTest {
    public static void main(String[] args) {
        whatMostHold();
        whatMostOfAllHold();
        ordersOutOfPlace();
        ordersOfAnotherView();
        heldOfAnotherView();
        doAsManyAsItHolds();
        doOfAnotherView();
        passToOneThatDoesNotLead();
        electAndWait();
        Check.end();
    }

    private static void whatMostHold() {
        GroupCast x = new GroupCast(5);
        x.submit(4, 8);
        x.submit(4, 16);
        x.submit(4, 24);
        Check.dueDeliver("node 0 holds two", x, 4, 0, 2, 2);
        Check.dueDeliver("node 1 holds three", x, 4, 1, 2, 2, 2);
        Check.dueDeliver("told by 1", x, 1, 4, 3, 3, 3);
        Check.due("two of five are not most", x.node(4, 8), 0);
        Check.dueDeliver("told by 0", x, 0, 4, 3);
        Check.dueStack("three of five hold one", x, 4, 1);
        Check.dueDeliver("told by 0", x, 0, 4, 3);
        Check.dueStack("three of five hold two", x, 4, 2, 1);
        Check.due("letters: orders, held, two rounds of do", x.count(0), 12 + 5 + 8);
        Check.dueDeliver("node 3 hears all", x, 4, 3, 2, 2, 2, 4, 4);
        Check.dueStack("and does two", x, 3, 2, 1);
        Check.dueDeliver("node 3 tells", x, 3, 4, 3, 3);
        Check.due("no more is held by most", x.count(0), 12 + 5 + 8 + 3);
        Check.dueDeliver("node 3 tells", x, 3, 4, 3);
        Check.dueStack("three of five hold three", x, 4, 3, 2, 1);
        GroupCast y = new GroupCast(4);
        y.submit(3, 8);
        Check.dueDeliver("order", y, 3, 2, 2);
        Check.dueDeliver("held", y, 2, 3, 3);
        Check.due("two of four are not most", y.node(3, 8), 0);
        GroupCast z = new GroupCast(2);
        z.submit(1, 8);
        Check.due("one of two is not most", z.node(1, 8), 0);
    }

    private static void whatMostOfAllHold() {
        GroupCast x = Scenes.withoutTheHighest(4);
        x.submit(2, 8);
        Check.dueDeliver("order", x, 2, 1, 2);
        Check.dueDeliver("held", x, 1, 2, 3);
        Check.due("two members of three are not most of four", x.node(2, 8), 0);
        Check.dueDeliver("order", x, 2, 0, 2);
        Check.dueDeliver("held", x, 0, 2, 3);
        Check.due("three are", x.node(2, 8), 1);
        Check.dueDeliver("do", x, 2, 0, 4);
        Check.dueStack("done by 0", x, 0, 1);
        Check.due("none to who has left", x.flying(2, 3), 1);
    }

    private static void ordersOutOfPlace() {
        GroupCast x = new GroupCast(7);
        for (int i = 0; i < 60; i++) {
            x.submit(6, 8);
        }
        for (int i = 0; i < 140; i++) {
            x.submit(0, 8);
        }
        Check.due("500 fly", x.flying(-1, 0), 500);
        Check.dueDeliver("order", x, 6, 1, 2);
        Check.due("held flies back", x.letter(1, 6, 0), 3);
        GroupCast y = new GroupCast(3);
        y.suspect(0, 2);
        y.timeout(0);
        y.submit(2, 8);
        Check.dueDeliver("elect, flush", y, 0, 1, 5, 7);
        Check.dueDeliver("order to one that is blocked", y, 2, 1, 2);
        Check.due("it holds none", y.node(1, 7), 0);
        Check.dueDeliver("wait, flushed", y, 1, 0, 6, 8);
        Check.dueDeliver("sync", y, 0, 1, 9);
        Check.dueDeliver("synced", y, 1, 0, 10);
        Check.dueDeliver("begin", y, 0, 1, 11);
        Check.dueNode("node 1 leads, though 0 flushed", y, 1, 0, 0, 3, 3, 1, 3, 0, 0, 0, 3, 0, 0);
        y.submit(1, 8);
        Check.dueDeliver("an order of the new view", y, 1, 0, 2);
        Check.due("it holds one", y.node(0, 7), 1);
        missedOne();
    }

    /** Node 1 begins a view that is led by node 2 after its first order has come. */
    private static void missedOne() {
        GroupCast x = new GroupCast(5);
        x.suspect(0, 4);
        x.suspect(0, 3);
        x.timeout(0);
        Check.dueNode("node 0 flushes", x, 0, 0, 3, 0, 31, 4, 5, 24, 0, 0, 0, 1, 7);
        Check.dueDeliver("elect, flush", x, 0, 1, 5, 7);
        Check.dueDeliver("elect, flush", x, 0, 2, 5, 7);
        Check.dueDeliver("asks, flushed", x, 1, 2, 5);
        Check.dueDeliver("wait, flushed", x, 1, 0, 6, 8);
        Check.dueDeliver("wait, flushed", x, 2, 0, 6, 8);
        Check.dueDeliver("sync", x, 0, 1, 9);
        Check.dueDeliver("sync", x, 0, 2, 9);
        Check.dueDeliver("synced", x, 1, 0, 10);
        Check.due("both must have sent it", x.node(0, 1), 4);
        Check.dueDeliver("synced", x, 2, 0, 10);
        Check.due("node 2 asked anew", x.node(2, 1), 1);
        Check.dueDeliver("begin", x, 0, 2, 11);
        Check.dueNode("node 2 leads", x, 2, 0, 0, 5, 7, 2, 5, 0, 0, 0, 5, 0, 0);
        x.submit(2, 8);
        x.submit(2, 16);
        Check.due("wait, order, order", x.flying(2, 1), 3);
        Check.dueDeliver("wait, order to one that is blocked", x, 2, 1, 6, 2);
        Check.due("it holds none", x.node(1, 7), 0);
        Check.dueDeliver("begin", x, 0, 1, 11);
        Check.dueLetter("the second order", x, 2, 1, 2, 5, 1, 1);
        Check.dueDeliver("the second order", x, 2, 1, 2);
        Check.due("out of its place", x.node(1, 7), 0);
        Check.due("no answer", x.letter(1, 2, 0), -1);
    }

    private static void ordersOfAnotherView() {
        GroupCast x = new GroupCast(3);
        x.submit(2, 8);
        x.suspect(1, 2);
        Scenes.changeView(x, 1, 1);
        Check.dueDeliver("an order of the old view", x, 2, 0, 2);
        Check.due("is not heeded", x.node(0, 7), 0);
        Check.due("no answer", x.flying(0, 2), 0);
    }

    private static void heldOfAnotherView() {
        GroupCast x = new GroupCast(4);
        x.submit(3, 8);
        Check.dueDeliver("order", x, 3, 1, 2);
        Check.dueDeliver("order", x, 3, 2, 2);
        Check.dueDeliver("held", x, 1, 3, 3);
        x.suspect(3, 0);
        Check.dueDeliver("held, to a leader that is blocked", x, 2, 3, 3);
        Check.due("is not heeded", x.node(3, 8), 0);
        Check.dueDeliver("flush", x, 3, 1, 7);
        Check.dueDeliver("flush", x, 3, 2, 7);
        Check.dueDeliver("order", x, 3, 0, 2);
        Check.dueDeliver("flushed", x, 1, 3, 8);
        Check.dueDeliver("flushed", x, 2, 3, 8);
        Check.dueDeliver("sync", x, 3, 1, 9);
        Check.dueDeliver("sync", x, 3, 2, 9);
        Check.dueDeliver("synced", x, 1, 3, 10);
        Check.dueDeliver("synced", x, 2, 3, 10);
        Check.due("carried out as it begins", x.node(3, 8), 1);
        Check.dueDeliver("held of the old view", x, 0, 3, 3);
        Check.due("no do", x.letter(3, 0, 0), 12);
    }

    private static void doAsManyAsItHolds() {
        GroupCast x = new GroupCast(5);
        x.suspect(0, 4);
        x.timeout(0);
        x.submit(4, 8);
        x.submit(4, 16);
        Check.dueDeliver("order", x, 4, 3, 2, 2);
        Check.dueDeliver("order", x, 4, 2, 2);
        Check.dueDeliver("held", x, 3, 4, 3, 3);
        Check.dueDeliver("held", x, 2, 4, 3);
        Check.dueDeliver("order", x, 4, 2, 2);
        Check.dueDeliver("held", x, 2, 4, 3);
        Check.due("two done", x.node(4, 8), 2);
        Check.dueDeliver("do 1", x, 4, 3, 4);
        Check.due("one done", x.node(3, 8), 1);
        Check.dueDeliver("do 2", x, 4, 3, 4);
        Check.dueStack("two done", x, 3, 2, 1);
        Check.dueDeliver("elect, flush", x, 0, 1, 5, 7);
        Check.dueDeliver("orders and dos to one that is blocked", x, 4, 1, 2, 2, 4, 4);
        Check.dueNode("it does nothing", x, 1, 0, 0, 0, 31, 4, 5, 0, 0, 0, 0, 1, 0);
    }

    private static void doOfAnotherView() {
        GroupCast x = new GroupCast(3);
        x.submit(2, 8);
        Check.dueDeliver("order", x, 2, 0, 2);
        Check.dueDeliver("held", x, 0, 2, 3);
        x.suspect(1, 2);
        Check.dueDeliver("flush", x, 1, 0, 7);
        Check.dueDeliver("do, to one that is blocked", x, 2, 0, 4);
        Check.due("is not heeded", x.node(0, 8), 0);
        Check.dueDeliver("flushed", x, 0, 1, 8);
        Check.dueDeliver("sync", x, 1, 0, 9);
        Check.due("a sync carries nothing out", x.node(0, 8), 0);
        Check.dueDeliver("synced", x, 0, 1, 10);
        Check.dueStack("a begin does", x, 1, 1);
        Check.dueDeliver("order, do of the old view", x, 2, 1, 2, 4);
        Check.dueStack("once", x, 1, 1);
    }

    private static void passToOneThatDoesNotLead() {
        GroupCast x = new GroupCast(3);
        x.suspect(0, 2);
        x.timeout(0);
        Check.dueDeliver("elect, flush", x, 0, 1, 5, 7);
        Check.dueDeliver("wait, flushed", x, 1, 0, 6, 8);
        Check.dueDeliver("sync", x, 0, 1, 9);
        Check.dueDeliver("synced", x, 1, 0, 10);
        Check.due("node 0 passes to node 1", x.submit(0, 8), 1);
        Check.due("begin, pass", x.flying(0, 1), 2);
        x.suspect(1, 0);
        x.timeout(1);
        Check.due("node 1 flushes with node 2", x.node(1, 11), 6);
        Check.dueDeliver("begin comes too late; the pass is lost", x, 0, 1, 11, 1);
        Check.due("lost", x.count(1), 1);
        Check.due("its view", x.node(1, 2), 0);
    }

    private static void electAndWait() {
        GroupCast x = new GroupCast(4);
        x.suspect(0, 3);
        Check.dueDeliver("elect", x, 0, 1, 5);
        Check.dueNode("node 1 asks", x, 1, 0, 1, 0, 15, 3, 0, 0, 0, 0, 0, 0, 0);
        Check.due("it answers", x.letter(1, 0, 0), 6);
        Check.due("it asks 2", x.letter(1, 2, 0), 5);
        Check.due("it asks 3", x.letter(1, 3, 0), 5);
        Check.dueDeliver("elect at the leader", x, 1, 3, 5);
        Check.dueNode("the leader flushes", x, 3, 0, 3, 0, 15, 3, 3, 0, 0, 0, 0, 1, 15);
        Check.due("wait goes first", x.letter(3, 1, 0), 6);
        Check.dueDeliver("wait", x, 3, 1, 6);
        Check.due("node 1 awaits", x.node(1, 1), 2);
        int sent = x.count(0);
        Check.dueDeliver("wait", x, 1, 0, 6);
        Check.due("node 0 awaits", x.node(0, 1), 2);
        Check.due("no letter", x.count(0), sent);
        x.timeout(0);
        Check.dueDeliver("elect again", x, 0, 1, 5);
        Check.due("node 1 awaits still", x.node(1, 1), 2);
        Check.dueDeliver("but answers", x, 1, 0, 6);
        Check.due("node 0 awaits", x.node(0, 1), 2);
        Check.dueDeliver("flush", x, 3, 0, 7);
        Check.due("node 0 has none to await", x.node(0, 1), 0);
        Check.dueDeliver("elect", x, 0, 2, 5, 5);
        Check.dueDeliver("wait", x, 2, 0, 6, 6);
        Check.due("a wait for one that has no task", x.node(0, 1), 0);
    }
}
