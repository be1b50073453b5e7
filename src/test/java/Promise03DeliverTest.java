/** Promise 3: deliver. */
public final class Promise03DeliverTest {
    private static final int[] NO_NODES_OF_THREE = {-1, 3, 7, Integer.MIN_VALUE, Integer.MAX_VALUE};

    public static void main(String[] args) {
        theOldestComes();
        onlyOfThatChannel();
        itsKind();
        fromOneThatIsNotLive();
        thereIsNone();
        thereIsNoneForOneThatIsDown();
        lostWhenDown();
        lostWhenOut();
        lostForAnotherReason();
        noSuchNode();
        refusedCallsChangeNothing();
        Check.end();
    }

    private static void theOldestComes() {
        Check.promise(3, "The oldest letter of a channel comes");
        GroupCast x = new GroupCast(2);
        for (int i = 0; i < 10; i++) {
            x.submit(0, 8 * i);
        }
        for (int i = 0; i < 10; i++) {
            Check.due("deliver", x.deliver(0, 1), 1);
            Check.due("the newest of the leader", x.held(1, i), 8 * i);
            Check.due("left to come", x.flying(0, 1), 9 - i);
        }
        for (int i = 0; i < 10; i++) {
            Check.due("deliver", x.deliver(1, 0), 2);
            Check.due("the newest of the other", x.held(0, i), 8 * i);
        }
    }

    private static void onlyOfThatChannel() {
        Check.promise(3, "The oldest letter of a channel comes: of that channel alone");
        GroupCast x = new GroupCast(3);
        x.submit(0, 8);
        x.submit(1, 16);
        x.submit(2, 24);
        Check.dueDeliver("the younger one", x, 1, 2, 1);
        Check.dueHeld("behind its own", x, 2, 24, 16);
        Check.dueFlying("from 0", x, 0, 0, 0, 1);
        Check.dueFlying("from 1", x, 1, 0, 0, 0);
        Check.dueFlying("from 2", x, 2, 2, 2, 0);
    }

    private static void itsKind() {
        Check.promise(3, "its kind");
        for (int kind = 1; kind <= 12; kind++) {
            GroupCast x = Scenes.withLetter(kind);
            int flying = x.flying(Scenes.LETTER_FROM[kind], Scenes.LETTER_TO[kind]);
            Check.dueDeliver("kind " + kind, x, Scenes.LETTER_FROM[kind], Scenes.LETTER_TO[kind], kind);
            Check.due("it flies no more", x.flying(Scenes.LETTER_FROM[kind], Scenes.LETTER_TO[kind]), flying - 1);
            Check.due("none is lost", x.count(1), 0);
        }
    }

    private static void fromOneThatIsNotLive() {
        Check.promise(3, "its kind: the sender need not be live");
        for (int kind = 1; kind <= 12; kind++) {
            GroupCast x = Scenes.withLetter(kind);
            x.crash(Scenes.LETTER_FROM[kind]);
            Check.dueDeliver("kind " + kind, x, Scenes.LETTER_FROM[kind], Scenes.LETTER_TO[kind], kind);
            Check.due("none is lost", x.count(1), 0);
        }
        GroupCast y = new GroupCast(2);
        y.submit(0, 8);
        y.crash(0);
        Check.dueDeliver("pass", y, 0, 1, 1);
        Check.dueHeld("it is added", y, 1, 8);
        Check.dueDeliver("the order is lost", y, 1, 0, 22);
    }

    private static void thereIsNone() {
        Check.promise(3, "0: there is none");
        GroupCast x = new GroupCast(3);
        for (int from = 0; from < 3; from++) {
            for (int to = 0; to < 3; to++) {
                Check.dueDeliver("at first", x, from, to, 0);
            }
        }
        x.submit(0, 8);
        Check.dueDeliver("the other way", x, 2, 0, 0);
        Check.dueDeliver("another channel", x, 0, 1, 0);
        Check.dueDeliver("to itself", x, 0, 0, 0);
        Check.dueDeliver("to itself, the leader", x, 2, 2, 0);
        Check.dueDeliver("until it is empty", x, 0, 2, 1, 0, 0);
    }

    private static void thereIsNoneForOneThatIsDown() {
        Check.promise(3, "0: there is none, for a node that is not live");
        GroupCast x = new GroupCast(3);
        x.crash(2);
        Check.dueDeliver("down", x, 0, 2, 0);
        Check.due("lost", x.count(1), 0);
        GroupCast y = Scenes.withoutTheHighest(3);
        Check.dueDeliver("left, then none", y, 1, 2, 12, 0);
        Check.due("lost", y.count(1), 0);
    }

    private static void lostWhenDown() {
        Check.promise(3, "20 and its kind when it is LOST by that because the node is not live");
        for (int kind = 1; kind <= 12; kind++) {
            GroupCast x = Scenes.withLetter(kind);
            int to = Scenes.LETTER_TO[kind];
            int sent = x.count(0);
            int flying = x.flying(-1, 0);
            int held = x.node(to, 7);
            int promise = x.node(to, 5);
            x.crash(to);
            Check.dueDeliver("kind " + kind, x, Scenes.LETTER_FROM[kind], to, 20 + kind);
            Check.due("it flies no more", x.flying(-1, 0), flying - 1);
            Check.due("it is lost", x.count(1), 1);
            Check.due("nothing is sent for it", x.count(0), sent);
            Check.due("the node is down", x.node(to, 0), 1);
            Check.due("what it holds", x.node(to, 7), held);
            Check.due("its promise", x.node(to, 5), promise);
        }
    }

    private static void lostWhenOut() {
        Check.promise(3, "20 and its kind when the node is not live: OUT");
        GroupCast x = Scenes.withoutTheHighest(3);
        x.suspect(2, 0);
        Check.dueDeliver("it leaves", x, 1, 2, 12);
        Check.due("out", x.node(2, 0), 2);
        Check.dueDeliver("a letter of its own still comes", x, 2, 1, 7);
        Check.due("and is heeded", x.node(1, 5), 2);
        Check.due("lost so far", x.count(1), 0);
        Check.dueDeliver("the answer is lost", x, 1, 2, 28, 0);
        Check.due("lost", x.count(1), 1);
        Check.due("it is still at its flush", x.node(2, 1), 3);
    }

    private static void lostForAnotherReason() {
        Check.promise(3, "because the node is not live: for any other reason, it is the kind alone");
        GroupCast x = new GroupCast(4);
        x.submit(0, 8);
        x.suspect(3, 1);
        Check.dueDeliver("a pass that a blocked leader loses", x, 0, 3, 1);
        Check.due("lost", x.count(1), 1);
    }

    private static void noSuchNode() {
        Check.promise(3, "NONE: there is no such node");
        GroupCast x = new GroupCast(3);
        x.submit(0, 8);
        for (int node : NO_NODES_OF_THREE) {
            Check.dueDeliver("no sender", x, node, 2, -1);
            Check.dueDeliver("nobody to come to", x, 0, node, -1);
            Check.dueDeliver("neither", x, node, node, -1);
        }
        Check.dueDeliver("neither", x, 3, -1, -1);
        x.crash(2);
        Check.dueDeliver("to one that is down", x, 3, 2, -1);
        Check.due("still flying", x.flying(0, 2), 1);
    }

    private static void refusedCallsChangeNothing() {
        Check.promise(3, "0, NONE: nothing comes");
        GroupCast x = Scenes.withLetter(9);
        String before = Check.seen(x, 3);
        Check.dueDeliver("no node", x, 3, 0, -1);
        Check.dueDeliver("no node", x, 1, -1, -1);
        Check.dueDeliver("none there", x, 0, 1, 0);
        Check.dueUnchanged("after all of these", x, 3, before);
    }
}
