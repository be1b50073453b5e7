/** Promise 9: depth. */
public final class Promise09DepthTest {
    public static void main(String[] args) {
        atFirst();
        onlyWhatIsCarriedOut();
        goesUpAndDown();
        twentyAtMost();
        ofOneThatIsNotLive();
        noSuchNode();
        Check.end();
    }

    private static void atFirst() {
        Check.promise(9, "How many ints are on a node's stack: none");
        for (int n = 2; n <= 7; n++) {
            GroupCast x = new GroupCast(n);
            for (int node = 0; node < n; node++) {
                Check.due("depth(" + node + ") of " + n, x.depth(node), 0);
            }
        }
    }

    private static void onlyWhatIsCarriedOut() {
        Check.promise(9, "How many ints are on a node's stack: of what is carried out, not of what is held");
        GroupCast x = new GroupCast(3);
        x.submit(2, 48);
        x.deliver(2, 0);
        Check.due("held by the leader", x.depth(2), 0);
        Check.due("held by the other", x.depth(0), 0);
        x.deliver(0, 2);
        Check.due("carried out by the leader", x.depth(2), 1);
        Check.due("not by the other", x.depth(0), 0);
        x.deliver(2, 0);
        Check.due("carried out by the other", x.depth(0), 1);
        Check.due("not by the third", x.depth(1), 0);
    }

    private static void goesUpAndDown() {
        Check.promise(9, "How many ints are on a node's stack: after each act");
        int[] acts = {8, 16, Machines.DUP, Machines.SWAP, Machines.ADD, Machines.MUL, Machines.POP, Machines.POP};
        int[] depths = {1, 2, 3, 3, 2, 1, 0, 0};
        GroupCast x = new GroupCast(2);
        for (int i = 0; i < acts.length; i++) {
            Machines.carryOut(x, acts[i]);
            Check.due("after act " + i, x.depth(0), depths[i]);
            Check.due("after act " + i, x.depth(1), depths[i]);
        }
    }

    private static void twentyAtMost() {
        Check.promise(9, "How many ints are on a node's stack: 20 at most");
        GroupCast x = new GroupCast(2);
        for (int i = 1; i <= 23; i++) {
            Machines.carryOut(x, 8 * i);
            Check.due("after " + i, x.depth(0), Math.min(i, 20));
        }
    }

    private static void ofOneThatIsNotLive() {
        Check.promise(9, "How many ints are on a node's stack: live or not");
        GroupCast x = Machines.after(48, 56);
        x.crash(0);
        Check.due("of one that is down", x.depth(0), 2);
        GroupCast y = new GroupCast(3);
        y.submit(2, 48);
        Check.dueDeliver("order", y, 2, 0, 2);
        Check.dueDeliver("held", y, 0, 2, 3);
        y.suspect(1, 2);
        Scenes.roundTrips(y, 1, 7, 8, 0);
        Scenes.roundTrips(y, 1, 9, 10, 0);
        Check.dueDeliver("left", y, 1, 2, 12);
        Check.due("of one that is out", y.depth(2), 1);
    }

    private static void noSuchNode() {
        Check.promise(9, "NONE: there is no such node");
        for (int n = 2; n <= 7; n++) {
            GroupCast x = new GroupCast(n);
            for (int node : new int[] {-1, n, 8, Integer.MIN_VALUE, Integer.MAX_VALUE}) {
                Check.due("depth(" + node + ") of " + n, x.depth(node), -1);
            }
        }
    }
}
