/** Promise 8: held. */
public final class HeldTest {
    public static void main(String[] args) {
        GroupCast x = new GroupCast(3);
        Check.due("nothing is held", x.held(2, 0), -100001);
        x.submit(2, -8000);
        x.submit(2, 3);
        x.submit(2, 0);
        x.deliver(2, 0);
        x.deliver(2, 0);
        Check.due("held(2, 0)", x.held(2, 0), -8000);
        Check.due("held(2, 1)", x.held(2, 1), 3);
        Check.due("held(2, 2)", x.held(2, 2), 0);
        Check.due("held(0, 0)", x.held(0, 0), -8000);
        Check.due("held(0, 1)", x.held(0, 1), 3);
        Check.due("held(1, 0)", x.held(1, 0), -100001);
        for (int i : new int[] {-1, 3, 59, 60, 61, Integer.MIN_VALUE, Integer.MAX_VALUE}) {
            Check.due("held(2, " + i + ")", x.held(2, i), -100001);
        }
        for (int node : new int[] {-1, 3, 7, Integer.MIN_VALUE, Integer.MAX_VALUE}) {
            Check.due("held(" + node + ", 0)", x.held(node, 0), -100001);
        }
        x.crash(2);
        Check.due("of one that is down", x.held(2, 1), 3);
        afterAShorterSync();
        Check.end();
    }

    private static void afterAShorterSync() {
        GroupCast x = Scenes.greaterStampAgainstLongerRow();
        Check.due("before the sync", x.held(0, 2), 24);
        Check.dueDeliver("to node 0", x, 2, 0, 9);
        Check.due("after the sync", x.held(0, 0), -100001);
    }
}
