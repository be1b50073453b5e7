/** Promise 8: held. */
public final class Promise08HeldTest {
    private static final int NONE_HELD = -100001;

    public static void main(String[] args) {
        ordinary();
        ofOneThatIsNotLive();
        nothing();
        tooSmall();
        tooLarge();
        sixty();
        noSuchNode();
        afterAShorterSync();
        Check.end();
    }

    private static GroupCast threeActs() {
        GroupCast x = new GroupCast(3);
        x.submit(2, -8000);
        x.submit(2, 3);
        x.submit(2, 0);
        Check.dueDeliver("two orders", x, 2, 0, 2, 2);
        return x;
    }

    private static void ordinary() {
        Check.promise(8, "Act i that a node holds");
        GroupCast x = threeActs();
        Check.due("held(2, 0)", x.held(2, 0), -8000);
        Check.due("held(2, 1)", x.held(2, 1), 3);
        Check.due("held(2, 2)", x.held(2, 2), 0);
        Check.due("held(0, 0)", x.held(0, 0), -8000);
        Check.due("held(0, 1)", x.held(0, 1), 3);
        Check.dueDeliver("held", x, 0, 2, 3, 3);
        Check.due("two are carried out", x.node(2, 8), 2);
        Check.due("and held still", x.held(2, 0), -8000);
    }

    private static void ofOneThatIsNotLive() {
        Check.promise(8, "Act i that a node holds: live or not");
        GroupCast x = threeActs();
        x.crash(2);
        Check.due("of one that is down", x.held(2, 1), 3);
        GroupCast y = Scenes.withoutTheHighest(3);
        y.submit(2, 16);
        y.deliver(1, 2);
        Check.due("of one that is out", y.held(2, 0), 16);
    }

    private static void nothing() {
        Check.promise(8, "NONE - 100000: there is none: it holds nothing");
        Check.due("the number", GroupCast.NONE - 100000, NONE_HELD);
        GroupCast x = new GroupCast(3);
        for (int node = 0; node < 3; node++) {
            Check.due("held(" + node + ", 0)", x.held(node, 0), NONE_HELD);
        }
        x.submit(0, 8);
        Check.due("who passed an act does not hold it", x.held(0, 0), NONE_HELD);
    }

    private static void tooSmall() {
        Check.promise(8, "NONE - 100000: there is none: i too small");
        GroupCast x = threeActs();
        for (int i : new int[] {-1, -2, -60, Integer.MIN_VALUE}) {
            Check.due("held(2, " + i + ")", x.held(2, i), NONE_HELD);
        }
    }

    private static void tooLarge() {
        Check.promise(8, "NONE - 100000: there is none: i too large");
        GroupCast x = threeActs();
        for (int i : new int[] {3, 4, 59, 60, 61, Integer.MAX_VALUE}) {
            Check.due("held(2, " + i + ")", x.held(2, i), NONE_HELD);
        }
        Check.due("one that the leader holds, but not node 0", x.held(0, 2), NONE_HELD);
    }

    private static void sixty() {
        Check.promise(8, "Act i that a node holds: of 60");
        GroupCast x = Scenes.fullOfActs(2);
        for (int i = 0; i < 60; i++) {
            Check.due("held(1, " + i + ")", x.held(1, i), 8 * i);
        }
        Check.due("held(1, 60)", x.held(1, 60), NONE_HELD);
    }

    private static void noSuchNode() {
        Check.promise(8, "NONE - 100000: there is none: no such node");
        GroupCast x = threeActs();
        for (int node : new int[] {-1, 3, 7, Integer.MIN_VALUE, Integer.MAX_VALUE}) {
            Check.due("held(" + node + ", 0)", x.held(node, 0), NONE_HELD);
            Check.due("held(" + node + ", -1)", x.held(node, -1), NONE_HELD);
        }
    }

    private static void afterAShorterSync() {
        Check.promise(8, "NONE - 100000: there is none: not any more");
        GroupCast x = Scenes.greaterStampAgainstLongerRow(true);
        Check.due("before the sync", x.held(0, 2), 24);
        Check.dueDeliver("to node 0", x, 2, 0, 9);
        for (int i = 0; i < 3; i++) {
            Check.due("after the sync", x.held(0, i), NONE_HELD);
        }
    }
}
