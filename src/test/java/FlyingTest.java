/** Promise 11: flying; and the bound on what flies. */
public final class FlyingTest {
    public static void main(String[] args) {
        ordinary();
        wrongArguments();
        oneMoreIsLost();
        theLowestAreSentToFirst();
        Check.end();
    }

    private static void ordinary() {
        GroupCast x = new GroupCast(4);
        x.submit(3, 8);
        x.submit(3, 8);
        x.submit(1, 8);
        Check.due("flying(3, 0)", x.flying(3, 0), 2);
        Check.due("flying(3, 2)", x.flying(3, 2), 2);
        Check.due("flying(1, 3)", x.flying(1, 3), 1);
        Check.due("flying(3, 1)", x.flying(3, 1), 2);
        Check.due("flying(0, 3)", x.flying(0, 3), 0);
        Check.due("flying(3, 3)", x.flying(3, 3), 0);
        Check.due("on all", x.flying(-1, 0), 7);
        Check.due("on all", x.flying(GroupCast.NONE, 3), 7);
        x.deliver(3, 0);
        Check.due("one came, its answer flies", x.flying(3, 0), 1);
        Check.due("on all", x.flying(-1, 2), 7);
        x.crash(2);
        x.deliver(3, 2);
        Check.due("a lost one flies no more", x.flying(-1, 0), 6);
    }

    private static void wrongArguments() {
        GroupCast x = new GroupCast(4);
        x.submit(0, 8);
        for (int node : new int[] {-2, 4, 7, Integer.MIN_VALUE, Integer.MAX_VALUE}) {
            Check.due("flying(" + node + ", 0)", x.flying(node, 0), -1);
            Check.due("flying(0, " + node + ")", x.flying(0, node), -1);
        }
        Check.due("flying(0, -1)", x.flying(0, -1), -1);
    }

    /** 498 letters fly: 60 orders to each of six, and 138 acts that were passed. */
    private static GroupCast almostAll() {
        GroupCast x = new GroupCast(7);
        for (int i = 0; i < 60; i++) {
            x.submit(6, 8);
        }
        for (int i = 0; i < 138; i++) {
            x.submit(0, 16);
        }
        Check.due("flying", x.flying(-1, 0), 498);
        Check.due("sent", x.count(0), 498);
        Check.due("lost", x.count(1), 0);
        return x;
    }

    private static void oneMoreIsLost() {
        GroupCast x = almostAll();
        x.submit(0, 24);
        x.submit(1, 24);
        Check.due("500 fly", x.flying(-1, 0), 500);
        Check.due("none is lost", x.count(1), 0);
        Check.due("one more is handed over all the same", x.submit(1, 32), 1);
        Check.due("500 fly still", x.flying(-1, 0), 500);
        Check.due("on that channel", x.flying(1, 6), 1);
        Check.due("sent", x.count(0), 501);
        Check.due("lost", x.count(1), 1);
        Check.dueDeliver("one comes, its answer has room", x, 6, 2, 2);
        Check.due("500 fly again", x.flying(-1, 0), 500);
        Check.due("none more is lost", x.count(1), 1);
        Check.dueDeliver("the leader is full", x, 1, 6, 1);
        Check.due("a passed act is lost", x.count(1), 2);
        Check.due("499 fly", x.flying(-1, 0), 499);
        Check.due("room for one", x.submit(1, 40), 1);
        Check.due("500 fly", x.flying(-1, 0), 500);
        Check.due("none more is lost", x.count(1), 2);
    }

    private static void theLowestAreSentToFirst() {
        GroupCast x = almostAll();
        Check.due("suspect(6, 0)", x.suspect(6, 0), 1);
        Check.due("flying(6, 0)", x.flying(6, 0), 60);
        Check.due("flying(6, 1)", x.flying(6, 1), 61);
        Check.due("flying(6, 2)", x.flying(6, 2), 61);
        for (int to = 3; to < 6; to++) {
            Check.due("flying(6, " + to + ")", x.flying(6, to), 60);
        }
        Check.due("sent", x.count(0), 503);
        Check.due("lost", x.count(1), 3);
        Check.due("the flush has begun all the same", x.node(6, 1), 3);
    }
}
