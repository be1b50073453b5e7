/** Promise 1: a new object. */
public final class Promise01NewObjectTest {
    public static void main(String[] args) {
        twoToSeven();
        tooSmall();
        tooLarge();
        objectsAreApart();
        Check.end();
    }

    private static void twoToSeven() {
        Check.promise(1, "N nodes");
        for (int n = 2; n <= 7; n++) {
            isNew("n = " + n, new GroupCast(n), n);
        }
    }

    private static void tooSmall() {
        Check.promise(1, "3 when n is not 2 .. 7: too small");
        for (int n : new int[] {1, 0, -1, -2, -7, Integer.MIN_VALUE + 3, Integer.MIN_VALUE}) {
            isNew("n = " + n, new GroupCast(n), 3);
        }
    }

    private static void tooLarge() {
        Check.promise(1, "3 when n is not 2 .. 7: too large");
        for (int n : new int[] {8, 9, 31, 32, 33, 65536, Integer.MAX_VALUE}) {
            isNew("n = " + n, new GroupCast(n), 3);
        }
    }

    private static void isNew(String when, GroupCast x, int n) {
        for (int node = 0; node < n; node++) {
            Check.dueNode(when, x, node, 0, 0, 0, (1 << n) - 1, n - 1, 0, 0, 0, 0, 0, 0, 0);
            Check.due(when + ": held", x.held(node, 0), -100001);
            Check.due(when + ": depth", x.depth(node), 0);
            Check.due(when + ": top", x.top(node, 0), 0);
            Check.due(when + ": flying", x.flying(node, n - 1 - node), 0);
            Check.due(when + ": letter", x.letter(node, n - 1 - node, 0), -1);
        }
        Check.due(when + ": one node more", x.node(n, 0), -1);
        Check.due(when + ": one node less", x.node(-1, 0), -1);
        Check.due(when + ": flying on all", x.flying(-1, 0), 0);
        Check.dueCounts(when, x, 0, 0, 0, 0, 0);
    }

    private static void objectsAreApart() {
        Check.promise(1, "A new object");
        GroupCast x = new GroupCast(3);
        GroupCast y = new GroupCast(3);
        x.submit(2, 8);
        x.crash(0);
        isNew("beside another", y, 3);
        isNew("after another", new GroupCast(3), 3);
    }
}
