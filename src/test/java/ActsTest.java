/** Promises 9 and 10, depth and top, and what each act does. */
public final class ActsTest {
    private static final int ADD = 1, MUL = 2, DUP = 3, POP = 4, SWAP = 5;

    public static void main(String[] args) {
        wrongArguments();
        onlyWhatIsCarriedOut();
        Check.dueStack("push", after(push(3), push(-4), push(0)), 1, 0, -4, 3);
        Check.dueStack("push, the edges", after(push(1000), push(-1000)), 1, -1000, 1000);
        Check.dueStack("add", after(push(9), push(3), push(-4), ADD), 1, -1, 9);
        Check.dueStack("mul", after(push(9), push(3), push(-4), MUL), 1, -12, 9);
        Check.dueStack("dup", after(push(9), push(3), DUP), 1, 3, 3, 9);
        Check.dueStack("pop", after(push(9), push(3), POP), 1, 9);
        Check.dueStack("swap", after(push(7), push(9), push(3), SWAP), 1, 9, 3, 7);
        Check.dueStack("swap of two", after(push(9), push(3), SWAP), 1, 9, 3);
        Check.dueStack("add of two", after(push(9), push(3), ADD), 1, 12);
        Check.dueStack("mul of two", after(push(9), push(3), MUL), 1, 27);
        Check.dueStack("dup of one", after(push(9), DUP), 1, 9, 9);
        Check.dueStack("add of one", after(push(9), ADD), 1, 9);
        Check.dueStack("mul of one", after(push(9), MUL), 1, 9);
        Check.dueStack("swap of one", after(push(9), SWAP), 1, 9);
        Check.dueStack("of none", after(ADD, MUL, DUP, POP, SWAP), 1);
        Check.dueStack("a thing is done after nothing was", after(POP, push(2), POP, POP, push(5)), 1, 5);
        ofFull();
        wrapping();
        Check.end();
    }

    private static int push(int k) {
        return 8 * k;
    }

    /** Two nodes, both of which have carried out the acts. */
    private static GroupCast after(int... acts) {
        GroupCast x = new GroupCast(2);
        for (int act : acts) {
            Check.due("submit", x.submit(1, act), 1);
            Check.due("order", x.deliver(1, 0), 2);
            Check.due("held", x.deliver(0, 1), 3);
            Check.due("do", x.deliver(1, 0), 4);
        }
        Check.due("carried out by the leader", x.node(1, 8), acts.length);
        Check.due("carried out by the other", x.node(0, 8), acts.length);
        Check.due("carried out by both", x.count(2), 2 * acts.length);
        Check.due("the same depth", x.depth(0), x.depth(1));
        for (int i = 0; i < 20; i++) {
            Check.due("the same ints", x.top(0, i), x.top(1, i));
        }
        return x;
    }

    private static void wrongArguments() {
        GroupCast x = after(push(6), push(7));
        for (int node : new int[] {-1, 2, 3, Integer.MIN_VALUE, Integer.MAX_VALUE}) {
            Check.due("depth(" + node + ")", x.depth(node), -1);
            Check.due("top(" + node + ", 0)", x.top(node, 0), 0);
        }
        for (int i : new int[] {-1, 2, 19, 20, 21, Integer.MIN_VALUE, Integer.MAX_VALUE}) {
            Check.due("top(0, " + i + ")", x.top(0, i), 0);
        }
        x.crash(0);
        Check.dueStack("of one that is down", x, 0, 7, 6);
    }

    private static void onlyWhatIsCarriedOut() {
        GroupCast x = new GroupCast(3);
        x.submit(2, push(6));
        x.deliver(2, 0);
        Check.due("held, not carried out, by the leader", x.depth(2), 0);
        Check.due("held, not carried out, by the other", x.depth(0), 0);
        x.deliver(0, 2);
        Check.dueStack("carried out by the leader", x, 2, 6);
        Check.due("not by the other", x.depth(0), 0);
        Check.due("top of an empty stack", x.top(0, 0), 0);
    }

    private static void ofFull() {
        int[] acts = new int[26];
        for (int i = 0; i < 20; i++) {
            acts[i] = push(i);
        }
        acts[20] = push(77);
        acts[21] = DUP;
        acts[22] = SWAP;
        acts[23] = push(78);
        acts[24] = ADD;
        acts[25] = DUP;
        GroupCast x = after(acts);
        Check.due("depth", x.depth(0), 20);
        Check.due("top(0, 0)", x.top(0, 0), 37);
        Check.due("top(0, 1)", x.top(0, 1), 37);
        Check.due("top(0, 2)", x.top(0, 2), 17);
        Check.due("top(0, 18)", x.top(0, 18), 1);
        Check.due("top(0, 19)", x.top(0, 19), 0);
        Check.due("top(0, 20)", x.top(0, 20), 0);
    }

    private static void wrapping() {
        int million = 1000 * 1000;
        GroupCast x = after(push(1000), DUP, MUL, DUP, MUL, DUP, DUP, ADD);
        Check.dueStack("ints that wrap", x, 1, 2 * (million * million), million * million);
        Check.dueStack("the sum wraps", after(push(1000), DUP, MUL, push(1000), MUL, DUP, DUP, ADD, ADD), 0,
            3 * (1000 * million));
    }
}
