/** Promise 5: crash. */
public final class Promise05CrashTest {
    public static void main(String[] args) {
        down();
        everyNode();
        forEver();
        notAgain();
        oneThatIsOut();
        noSuchNode();
        refusedCallsChangeNothing();
        Check.end();
    }

    private static void down() {
        Check.promise(5, "A node is DOWN: true");
        GroupCast x = new GroupCast(4);
        x.suspect(0, 3);
        x.suspect(2, 3);
        int sent = x.count(0);
        Check.due("crash(2)", x.crash(2), true);
        Check.dueNode("all but its life stays", x, 2, 1, 3, 0, 15, 3, 2, 8, 0, 0, 0, 1, 7);
        Check.dueNode("the others know nothing of it", x, 0, 0, 1, 0, 15, 3, 0, 8, 0, 0, 0, 0, 0);
        Check.due("no letter", x.count(0), sent);
        Check.due("others may suspect it", x.suspect(1, 2), 1);
        Check.dueDeliver("its letter comes still", x, 2, 1, 7);
        Check.dueDeliver("an answer to it is lost", x, 1, 2, 28);
    }

    private static void everyNode() {
        Check.promise(5, "A node is DOWN: each, and all of them");
        for (int n = 2; n <= 7; n++) {
            GroupCast x = new GroupCast(n);
            for (int node = 0; node < n; node++) {
                Check.due("crash(" + node + ") of " + n, x.crash(node), true);
                Check.due("down", x.node(node, 0), 1);
                Check.due("the next is not", x.node(node + 1, 0), node + 1 < n ? 0 : -1);
            }
        }
    }

    private static void forEver() {
        Check.promise(5, "for ever");
        GroupCast x = new GroupCast(4);
        x.suspect(2, 3);
        x.crash(2);
        Check.due("its submit", x.submit(2, 8), 0);
        Check.due("its suspect", x.suspect(2, 1), 0);
        Check.due("its timeout", x.timeout(2), 0);
        x.suspect(3, 0);
        Check.dueDeliver("a flush to it", x, 3, 2, 27);
        Check.dueNode("it does nothing any more", x, 2, 1, 3, 0, 15, 3, 2, 8, 0, 0, 0, 1, 7);
        GroupCast y = new GroupCast(3);
        y.crash(2);
        y.suspect(1, 2);
        Scenes.changeView(y, 1, 1);
        Check.dueDeliver("it is left behind", y, 1, 2, 32);
        Check.due("down, not out", y.node(2, 0), 1);
    }

    private static void notAgain() {
        Check.promise(5, "false when it is not live: DOWN");
        GroupCast x = new GroupCast(2);
        Check.due("crash(0)", x.crash(0), true);
        Check.due("crash(0) again", x.crash(0), false);
        Check.due("crash(1)", x.crash(1), true);
        Check.due("crash(1) again", x.crash(1), false);
        Check.due("and again", x.crash(1), false);
    }

    private static void oneThatIsOut() {
        Check.promise(5, "false when it is not live: OUT");
        GroupCast x = Scenes.withoutTheHighest(3);
        x.deliver(1, 2);
        Check.due("crash of one that is out", x.crash(2), false);
        Check.due("it is still out", x.node(2, 0), 2);
        Check.due("crash of the new leader", x.crash(1), true);
    }

    private static void noSuchNode() {
        Check.promise(5, "false when there is none");
        for (int n = 2; n <= 7; n++) {
            GroupCast x = new GroupCast(n);
            for (int node : new int[] {-1, n, 8, Integer.MIN_VALUE, Integer.MAX_VALUE}) {
                Check.due("crash(" + node + ") of " + n, x.crash(node), false);
            }
            for (int node = 0; node < n; node++) {
                Check.due("all are live", x.node(node, 0), 0);
            }
        }
    }

    private static void refusedCallsChangeNothing() {
        Check.promise(5, "false: nothing is done");
        GroupCast x = new GroupCast(4);
        x.suspect(2, 3);
        x.crash(2);
        String before = Check.seen(x, 4);
        Check.due("again", x.crash(2), false);
        Check.due("no node", x.crash(4), false);
        Check.due("no node", x.crash(-1), false);
        Check.dueUnchanged("after all of these", x, 4, before);
    }
}
