/** Promise 10: top. */
public final class Promise10TopTest {
    public static void main(String[] args) {
        fromTheTop();
        empty();
        tooSmall();
        tooLarge();
        ofTwenty();
        popped();
        ofOneThatIsDown();
        noSuchNode();
        Check.end();
    }

    private static void fromTheTop() {
        Check.promise(10, "Int i of it, 0 the topmost");
        GroupCast x = Machines.after(48, -56, 64);
        for (int node = 0; node < 2; node++) {
            Check.due("top(.., 0)", x.top(node, 0), 8);
            Check.due("top(.., 1)", x.top(node, 1), -7);
            Check.due("top(.., 2)", x.top(node, 2), 6);
        }
    }

    private static void empty() {
        Check.promise(10, "0 when there is none: an empty stack");
        GroupCast x = new GroupCast(3);
        for (int i : new int[] {0, 1, 19, -1}) {
            Check.due("top(0, " + i + ")", x.top(0, i), 0);
        }
        x.submit(2, 48);
        Check.due("held, not carried out", x.top(2, 0), 0);
    }

    private static void tooSmall() {
        Check.promise(10, "0 when there is none: i too small");
        GroupCast x = Machines.after(48, 56);
        for (int i : new int[] {-1, -2, -20, Integer.MIN_VALUE}) {
            Check.due("top(0, " + i + ")", x.top(0, i), 0);
        }
    }

    private static void tooLarge() {
        Check.promise(10, "0 when there is none: i too large");
        GroupCast x = Machines.after(48, 56);
        Check.due("the lowest", x.top(0, 1), 6);
        for (int i : new int[] {2, 3, 19, 20, 21, Integer.MAX_VALUE}) {
            Check.due("top(0, " + i + ")", x.top(0, i), 0);
        }
    }

    private static void ofTwenty() {
        Check.promise(10, "Int i of it: of 20");
        GroupCast x = new GroupCast(2);
        for (int i = 1; i <= 20; i++) {
            Machines.carryOut(x, 8 * i);
        }
        for (int i = 0; i < 20; i++) {
            Check.due("top(0, " + i + ")", x.top(0, i), 20 - i);
        }
        Check.due("top(0, 20)", x.top(0, 20), 0);
    }

    private static void popped() {
        Check.promise(10, "0 when there is none: not any more");
        GroupCast x = Machines.after(48, 56, Machines.POP);
        Check.due("the lowest", x.top(0, 0), 6);
        Check.due("top(0, 1)", x.top(0, 1), 0);
        Machines.carryOut(x, Machines.POP);
        Check.due("top(0, 0)", x.top(0, 0), 0);
    }

    private static void ofOneThatIsDown() {
        Check.promise(10, "Int i of it: live or not");
        GroupCast x = Machines.after(48, 56);
        x.crash(0);
        Check.due("top(0, 0)", x.top(0, 0), 7);
        Check.due("top(0, 1)", x.top(0, 1), 6);
    }

    private static void noSuchNode() {
        Check.promise(10, "0 when there is none: no such node");
        GroupCast x = Machines.after(48, 56);
        for (int node : new int[] {-1, 2, 3, Integer.MIN_VALUE, Integer.MAX_VALUE}) {
            Check.due("top(" + node + ", 0)", x.top(node, 0), 0);
            Check.due("top(" + node + ", -1)", x.top(node, -1), 0);
        }
    }
}
