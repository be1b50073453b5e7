/** Promise 3: deliver. */
public final class DeliverTest {
    public static void main(String[] args) {
        whichNodes();
        nothingThere();
        inTheirOrder();
        lostOnArrival();
        lostForOneThatIsOut();
        fromOneThatIsDown();
        Check.end();
    }

    private static void whichNodes() {
        GroupCast x = new GroupCast(3);
        x.submit(0, 8);
        for (int node : new int[] {-1, 3, 7, Integer.MIN_VALUE, Integer.MAX_VALUE}) {
            Check.due("deliver(" + node + ", 2)", x.deliver(node, 2), -1);
            Check.due("deliver(0, " + node + ")", x.deliver(0, node), -1);
            Check.due("deliver(" + node + ", " + node + ")", x.deliver(node, node), -1);
        }
        Check.due("still flying", x.flying(0, 2), 1);
    }

    private static void nothingThere() {
        GroupCast x = new GroupCast(3);
        x.submit(0, 8);
        Check.due("the other way", x.deliver(2, 0), 0);
        Check.due("to itself", x.deliver(0, 0), 0);
        Check.dueDeliver("until it is empty", x, 0, 2, 1, 0, 0);
        x.crash(2);
        Check.due("to one that is down", x.deliver(0, 2), 0);
        Check.due("lost", x.count(1), 0);
    }

    private static void inTheirOrder() {
        GroupCast x = new GroupCast(2);
        for (int i = 0; i < 10; i++) {
            x.submit(0, 8 * i);
        }
        for (int i = 0; i < 10; i++) {
            Check.due("deliver", x.deliver(0, 1), 1);
            Check.due("the newest of the leader", x.held(1, i), 8 * i);
            Check.due("left to come", x.flying(0, 1), 9 - i);
        }
        for (int i = 0; i < 10; i++) {
            Check.due("deliver", x.deliver(1, 0), 2);
            Check.due("the newest of the other", x.held(0, i), 8 * i);
        }
    }

    private static void lostOnArrival() {
        GroupCast x = new GroupCast(3);
        x.submit(1, 8);
        x.submit(2, 8);
        x.deliver(2, 0);
        x.suspect(0, 2);
        x.crash(2);
        x.crash(1);
        Check.dueDeliver("down", x, 1, 2, 21, 0);
        Check.dueDeliver("down", x, 0, 2, 23, 0);
        Check.dueDeliver("down", x, 2, 1, 22, 0);
        Check.dueDeliver("down", x, 0, 1, 25, 0);
        Check.due("lost", x.count(1), 4);
        Check.due("flying", x.flying(-1, 0), 0);
        Check.due("nothing came behind what it holds", x.node(1, 7), 0);
    }

    private static void lostForOneThatIsOut() {
        GroupCast x = Scenes.withoutTheHighest(3);
        x.suspect(2, 0);
        Check.dueDeliver("it leaves", x, 1, 2, 12);
        Check.due("out", x.node(2, 0), 2);
        Check.dueDeliver("a letter of its own still comes", x, 2, 1, 7);
        Check.due("and is heeded", x.node(1, 5), 2);
        Check.due("lost so far", x.count(1), 0);
        Check.dueDeliver("the answer is lost", x, 1, 2, 28, 0);
        Check.due("lost", x.count(1), 1);
        Check.due("it is none", x.node(2, 1), 3);
    }

    private static void fromOneThatIsDown() {
        GroupCast x = new GroupCast(2);
        x.submit(0, 8);
        x.crash(0);
        Check.dueDeliver("from one that is down", x, 0, 1, 1);
        Check.due("it is added", x.held(1, 0), 8);
        Check.dueDeliver("the order is lost", x, 1, 0, 22);
    }
}
