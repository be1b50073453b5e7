/** Promise 5: crash. */
public final class CrashTest {
    public static void main(String[] args) {
        GroupCast x = new GroupCast(4);
        for (int node : new int[] {-1, 4, 6, Integer.MIN_VALUE, Integer.MAX_VALUE}) {
            Check.due("crash(" + node + ")", x.crash(node), false);
        }
        x.suspect(0, 3);
        x.suspect(2, 3);
        Check.due("crash(2)", x.crash(2), true);
        Check.due("crash(2) again", x.crash(2), false);
        Check.dueNode("all but its life stays", x, 2, 1, 3, 0, 15, 3, 2, 8, 0, 0, 0, 1, 7);
        Check.dueNode("the others know nothing of it", x, 0, 0, 1, 0, 15, 3, 0, 8, 0, 0, 0, 0, 0);
        Check.due("its submit", x.submit(2, 8), 0);
        Check.due("its suspect", x.suspect(2, 1), 0);
        Check.due("its suspects", x.node(2, 6), 8);
        Check.due("its timeout", x.timeout(2), 0);
        Check.due("its promise", x.node(2, 5), 2);
        Check.due("others may suspect it", x.suspect(1, 2), 1);
        Check.dueDeliver("its letter comes still", x, 2, 1, 7);
        Check.due("letters so far", x.count(0), 5);
        Check.dueDeliver("an answer to it is lost", x, 1, 2, 28);
        Check.due("crash(3)", x.crash(3), true);
        Check.due("crash(1)", x.crash(1), true);
        Check.due("crash(0)", x.crash(0), true);
        Check.due("crash(0) again", x.crash(0), false);
        oneThatIsOut();
        Check.end();
    }

    private static void oneThatIsOut() {
        GroupCast x = Scenes.withoutTheHighest(3);
        x.deliver(1, 2);
        Check.due("crash of one that is out", x.crash(2), false);
        Check.due("it is still out", x.node(2, 0), 2);
        Check.due("crash of the new leader", x.crash(1), true);
    }
}
