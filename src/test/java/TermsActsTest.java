/** Terms: what is an act, and what each does. */
public final class TermsActsTest {
    private static final int ADD = Machines.ADD, MUL = Machines.MUL, DUP = Machines.DUP, POP = Machines.POP,
        SWAP = Machines.SWAP;

    public static void main(String[] args) {
        pushes();
        pushesTooSmall();
        pushesTooLarge();
        otherActs();
        otherActsWithAnotherK();
        whatTheyDo();
        sumsThatWrap();
        productsThatWrap();
        twentyIntsAtMost();
        moreThanThereIs();
        roomThatThereIsNot();
        whatNeedsNoRoom();
        Check.end();
    }

    private static int push(int k) {
        return Machines.push(k);
    }

    private static void dueStack(String when, int[] acts, int... fromTop) {
        Check.dueStack(when, Machines.after(acts), 1, fromTop);
    }

    private static int[] acts(int... acts) {
        return acts;
    }

    private static void isAct(int act, boolean is) {
        GroupCast x = new GroupCast(2);
        Check.due("submit(1, " + act + ")", x.submit(1, act), is ? 1 : -1);
        Check.due("submit(0, " + act + ")", x.submit(0, act), is ? 1 : -1);
        Check.due("held(1, 0) after submit(1, " + act + ")", x.held(1, 0), is ? act : -100001);
    }

    private static void pushes() {
        Check.terms("c 0 PUSH k (k -1000 .. 1000)");
        for (int k : new int[] {-1000, -999, -2, -1, 0, 1, 2, 125, 999, 1000}) {
            isAct(8 * k, true);
            dueStack("push " + k, acts(push(k)), k);
        }
    }

    private static void pushesTooSmall() {
        Check.terms("k -1000 .. 1000: too small");
        for (int k : new int[] {-1001, -1002, -2000, -268435456}) {
            isAct(8 * k, false);
        }
    }

    private static void pushesTooLarge() {
        Check.terms("k -1000 .. 1000: too large");
        for (int k : new int[] {1001, 1002, 2000, 268435455}) {
            isAct(8 * k, false);
        }
    }

    private static void otherActs() {
        Check.terms("with k = 0: 1 ADD, 2 MUL, 3 DUP, 4 POP, 5 SWAP");
        for (int c = 1; c <= 5; c++) {
            isAct(c, true);
        }
        isAct(6, false);
        isAct(7, false);
    }

    private static void otherActsWithAnotherK() {
        Check.terms("and with k = 0: with another k");
        for (int k : new int[] {-1001, -1000, -1, 1, 2, 999, 1000, 268435455, -268435456}) {
            for (int c = 1; c <= 7; c++) {
                isAct(8 * k + c, false);
            }
        }
    }

    private static void whatTheyDo() {
        Check.terms("PUSH, ADD, MUL (of the two topmost), DUP, POP, SWAP");
        dueStack("push", acts(push(3), push(-4), push(0)), 0, -4, 3);
        dueStack("add", acts(push(9), push(3), push(-4), ADD), -1, 9);
        dueStack("mul", acts(push(9), push(3), push(-4), MUL), -12, 9);
        dueStack("dup", acts(push(9), push(3), DUP), 3, 3, 9);
        dueStack("pop", acts(push(9), push(3), POP), 9);
        dueStack("swap", acts(push(7), push(9), push(3), SWAP), 9, 3, 7);
        dueStack("one behind another", acts(push(2), push(3), DUP, MUL, SWAP, ADD, DUP, POP), 11);
    }

    private static void sumsThatWrap() {
        Check.terms("ints that wrap: ADD");
        int[] thousandMillion = {push(1000), DUP, MUL, push(1000), MUL};
        dueStack("as far as it goes", with(thousandMillion, DUP, ADD), 2000000000);
        dueStack("beyond", with(thousandMillion, DUP, DUP, ADD, ADD), -1294967296);
        int[] less = {push(1000), DUP, MUL, push(-1000), MUL};
        dueStack("as far below", with(less, DUP, ADD), -2000000000);
        dueStack("beyond, below", with(less, DUP, DUP, ADD, ADD), 1294967296);
    }

    private static void productsThatWrap() {
        Check.terms("ints that wrap: MUL");
        dueStack("2^31 is the least int", acts(push(512), DUP, DUP, MUL, MUL, push(16), MUL), Integer.MIN_VALUE);
        dueStack("2^32 is 0", acts(push(256), DUP, DUP, DUP, MUL, MUL, MUL), 0);
        dueStack("a million squared", acts(push(1000), DUP, MUL, DUP, MUL), -727379968);
        dueStack("the least int, turned", acts(push(512), DUP, DUP, MUL, MUL, push(16), MUL, push(-1), MUL),
            Integer.MIN_VALUE);
    }

    private static int[] with(int[] first, int... then) {
        int[] all = java.util.Arrays.copyOf(first, first.length + then.length);
        System.arraycopy(then, 0, all, first.length, then.length);
        return all;
    }

    private static void twentyIntsAtMost() {
        Check.terms("A machine's stack has 20 ints at most");
        int[] pushes = new int[21];
        for (int i = 0; i < 21; i++) {
            pushes[i] = push(i + 1);
        }
        GroupCast x = Machines.after(java.util.Arrays.copyOf(pushes, 20));
        Check.due("depth", x.depth(1), 20);
        Check.due("topmost", x.top(1, 0), 20);
        GroupCast y = Machines.after(pushes);
        Check.due("depth", y.depth(1), 20);
        Check.due("topmost", y.top(1, 0), 20);
        Check.due("lowest", y.top(1, 19), 1);
    }

    private static void moreThanThereIs() {
        Check.terms("an act that wants more than there is does nothing");
        dueStack("add of none", acts(ADD));
        dueStack("mul of none", acts(MUL));
        dueStack("dup of none", acts(DUP));
        dueStack("pop of none", acts(POP));
        dueStack("swap of none", acts(SWAP));
        dueStack("add of one", acts(push(9), ADD), 9);
        dueStack("mul of one", acts(push(9), MUL), 9);
        dueStack("swap of one", acts(push(9), SWAP), 9);
        dueStack("dup of one", acts(push(9), DUP), 9, 9);
        dueStack("pop of one", acts(push(9), POP));
        dueStack("add of two", acts(push(9), push(3), ADD), 12);
        dueStack("mul of two", acts(push(9), push(3), MUL), 27);
        dueStack("swap of two", acts(push(9), push(3), SWAP), 9, 3);
        dueStack("a thing is done after nothing was", acts(POP, push(2), POP, POP, push(5)), 5);
    }

    private static int[] nineteenAnd(int... then) {
        int[] pushes = new int[19];
        for (int i = 0; i < 19; i++) {
            pushes[i] = push(i);
        }
        return with(pushes, then);
    }

    private static void roomThatThereIsNot() {
        Check.terms("or room that there is not, does nothing");
        GroupCast x = Machines.after(nineteenAnd(DUP));
        Check.due("dup of 19", x.depth(1), 20);
        Check.due("topmost", x.top(1, 0), 18);
        GroupCast y = Machines.after(nineteenAnd(push(77), push(78), DUP, DUP));
        Check.due("push and dup of 20", y.depth(1), 20);
        Check.due("topmost", y.top(1, 0), 77);
        Check.due("the next", y.top(1, 1), 18);
        GroupCast z = Machines.after(nineteenAnd(push(77), push(78), POP, push(79)));
        Check.due("there is room again", z.depth(1), 20);
        Check.due("topmost", z.top(1, 0), 79);
    }

    private static void whatNeedsNoRoom() {
        Check.terms("or room that there is not: what needs none is done with 20");
        GroupCast x = Machines.after(nineteenAnd(push(77), SWAP));
        Check.due("swap", x.top(1, 0), 18);
        Check.due("swap", x.top(1, 1), 77);
        GroupCast y = Machines.after(nineteenAnd(push(77), ADD));
        Check.due("add", y.depth(1), 19);
        Check.due("add", y.top(1, 0), 95);
        GroupCast z = Machines.after(nineteenAnd(push(77), MUL));
        Check.due("mul", z.depth(1), 19);
        Check.due("mul", z.top(1, 0), 1386);
        GroupCast w = Machines.after(nineteenAnd(push(77), POP));
        Check.due("pop", w.depth(1), 19);
        Check.due("pop", w.top(1, 0), 18);
    }
}
