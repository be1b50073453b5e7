/** Promise 1: a new object. */
public final class NewObjectTest {
    public static void main(String[] args) {
        for (int n = 2; n <= 7; n++) {
            isNew("n = " + n, new GroupCast(n), n);
        }
        for (int n : new int[] {Integer.MIN_VALUE, -3, -1, 0, 1, 8, 9, Integer.MAX_VALUE}) {
            isNew("n = " + n, new GroupCast(n), 3);
        }
        objectsAreApart();
        Check.end();
    }

    private static void isNew(String when, GroupCast x, int n) {
        for (int node = 0; node < n; node++) {
            Check.dueNode(when, x, node, 0, 0, 0, (1 << n) - 1, n - 1, 0, 0, 0, 0, 0, 0, 0);
            Check.due(when + ": held", x.held(node, 0), -100001);
            Check.due(when + ": depth", x.depth(node), 0);
            Check.due(when + ": flying", x.flying(node, n - 1 - node), 0);
        }
        Check.due(when + ": one node more", x.node(n, 0), -1);
        Check.due(when + ": one node less", x.node(-1, 0), -1);
        Check.due(when + ": flying on all", x.flying(-1, 0), 0);
        for (int what = 0; what < 5; what++) {
            Check.due(when + ": count(" + what + ")", x.count(what), 0);
        }
    }

    private static void objectsAreApart() {
        GroupCast x = new GroupCast(3);
        GroupCast y = new GroupCast(3);
        x.submit(2, 8);
        x.crash(0);
        Check.due("another object's letters", y.count(0), 0);
        Check.due("another object's acts", y.held(2, 0), -100001);
        Check.due("another object's nodes", y.node(0, 0), 0);
    }
}
