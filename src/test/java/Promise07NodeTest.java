/** Promise 7: node. */
public final class Promise07NodeTest {
    public static void main(String[] args) {
        throughAChangeOfView();
        life();
        task();
        members();
        suspects();
        blocked();
        membersToBe();
        membersToBeOfOneThatIsDown();
        noSuchNode();
        noSuchThing();
        lookingChangesNothing();
        Check.end();
    }

    private static void throughAChangeOfView() {
        Check.promise(7, "Of a node: what = 0 .. 11");
        GroupCast x = new GroupCast(3);
        x.submit(2, 24);
        x.submit(2, 32);
        Check.dueDeliver("order", x, 2, 0, 2, 2);
        Check.dueDeliver("held", x, 0, 2, 3);
        Check.dueDeliver("order", x, 2, 1, 2, 2, 4);
        Check.dueNode("node 0", x, 0, 0, 0, 0, 7, 2, 0, 0, 2, 0, 0, 0, 0);
        Check.dueNode("node 1", x, 1, 0, 0, 0, 7, 2, 0, 0, 2, 1, 0, 0, 0);
        Check.dueNode("node 2", x, 2, 0, 0, 0, 7, 2, 0, 0, 2, 1, 0, 0, 0);
        x.crash(2);
        x.suspect(0, 2);
        Check.dueNode("node 0 asks", x, 0, 0, 1, 0, 7, 2, 0, 4, 2, 0, 0, 0, 0);
        Check.dueDeliver("elect", x, 0, 1, 5);
        Check.dueNode("node 1 asks the leader, too", x, 1, 0, 1, 0, 7, 2, 0, 0, 2, 1, 0, 0, 0);
        Check.dueDeliver("wait", x, 1, 0, 6);
        Check.dueNode("node 0 awaits", x, 0, 0, 2, 0, 7, 2, 0, 4, 2, 0, 0, 0, 0);
        x.suspect(1, 2);
        x.timeout(1);
        Check.dueNode("node 1 flushes", x, 1, 0, 3, 0, 7, 2, 1, 4, 2, 1, 0, 1, 3);
        Check.dueDeliver("flush", x, 1, 0, 7);
        Check.dueNode("node 0 has promised", x, 0, 0, 0, 0, 7, 2, 1, 4, 2, 0, 0, 1, 0);
        Check.dueDeliver("flushed", x, 0, 1, 8);
        Check.dueNode("node 1 syncs", x, 1, 0, 4, 0, 7, 2, 1, 4, 2, 1, 1, 1, 3);
        Check.dueDeliver("sync", x, 1, 0, 9);
        Check.dueNode("node 0 holds it by the number", x, 0, 0, 0, 0, 7, 2, 1, 4, 2, 0, 1, 1, 0);
        Check.dueDeliver("synced", x, 0, 1, 10);
        Check.dueNode("node 1 begins", x, 1, 0, 0, 1, 3, 1, 1, 4, 2, 2, 1, 0, 0);
        Check.dueDeliver("begin", x, 1, 0, 11);
        Check.dueNode("node 0 begins", x, 0, 0, 0, 1, 3, 1, 1, 4, 2, 2, 1, 0, 0);
        Check.dueNode("node 2 is down", x, 2, 1, 0, 0, 7, 2, 0, 0, 2, 1, 0, 0, 0);
    }

    private static void life() {
        Check.promise(7, "0 whether it is LIVE (0), DOWN (1), OUT (2)");
        GroupCast x = Scenes.withoutTheHighest(4);
        x.crash(0);
        x.deliver(2, 3);
        int[] lives = {1, 0, 0, 2};
        for (int node = 0; node < 4; node++) {
            Check.due("node(" + node + ", 0)", x.node(node, 0), lives[node]);
        }
    }

    private static void task() {
        Check.promise(7, "1 its task: 0 none, 1 ASKS, 2 AWAITS, 3 FLUSHES, 4 SYNCS");
        GroupCast x = new GroupCast(5);
        Check.due("none", x.node(2, 1), 0);
        x.suspect(2, 4);
        Check.due("asks", x.node(2, 1), 1);
        Scenes.roundTrips(x, 2, 5, 6, 3);
        Check.due("awaits", x.node(2, 1), 2);
        x.timeout(2);
        x.timeout(2);
        Check.due("flushes", x.node(2, 1), 3);
        Scenes.roundTrips(x, 2, 7, 8, 0, 1);
        Check.dueDeliver("elect again, flush", x, 2, 3, 5, 7);
        Check.dueDeliver("wait, flushed", x, 3, 2, 6, 8);
        Check.due("syncs", x.node(2, 1), 4);
    }

    private static void members() {
        Check.promise(7, "3 the members (as bits), 4 the leader");
        for (int n = 2; n <= 7; n++) {
            GroupCast x = new GroupCast(n);
            Check.due("all of " + n, x.node(0, 3), (1 << n) - 1);
            Check.due("the highest of " + n, x.node(0, 4), n - 1);
        }
        GroupCast x = new GroupCast(5);
        x.suspect(4, 0);
        x.suspect(4, 2);
        for (int peer : new int[] {1, 3}) {
            Check.dueDeliver("flush 4", x, 4, peer, 7);
            Check.dueDeliver("flushed 4", x, peer, 4, 8);
        }
        Scenes.toSync(x, 4, 1, 3);
        Scenes.roundTrips(x, 4, 9, 10, 1, 3);
        Check.dueNode("1, 3 and 4, led by 4", x, 4, 0, 0, 9, 26, 4, 9, 5, 0, 0, 9, 0, 0);
    }

    private static void suspects() {
        Check.promise(7, "6 its suspects (as bits)");
        GroupCast x = new GroupCast(7);
        int bits = 0;
        for (int peer = 6; peer > 0; peer--) {
            x.suspect(0, peer);
            bits |= 1 << peer;
            Check.due("with " + peer, x.node(0, 6), bits);
        }
        Check.due("all but itself", x.node(0, 6), 126);
        Check.due("the others suspect nobody", x.node(6, 6), 0);
    }

    private static void blocked() {
        Check.promise(7, "10 whether it is blocked");
        GroupCast x = new GroupCast(3);
        Check.due("at first", x.node(0, 10), 0);
        x.suspect(0, 2);
        Check.due("who asks is not", x.node(0, 10), 0);
        x.timeout(0);
        Check.due("who flushes is", x.node(0, 10), 1);
        x.suspect(0, 1);
        Check.due("who has given up is", x.node(0, 10), 1);
    }

    private static void membersToBe() {
        Check.promise(7, "11 the members to be (as bits; 0 unless it FLUSHES or SYNCS)");
        GroupCast x = new GroupCast(5);
        Check.due("no task", x.node(2, 11), 0);
        x.suspect(2, 4);
        Check.due("asks", x.node(2, 11), 0);
        Scenes.roundTrips(x, 2, 5, 6, 3);
        Check.due("awaits", x.node(2, 11), 0);
        x.suspect(2, 3);
        x.timeout(2);
        Check.due("flushes", x.node(2, 11), 7);
        Scenes.toSync(x, 2, 0, 1);
        Check.due("syncs", x.node(2, 11), 7);
        Check.due("the others have none", x.node(0, 11) + x.node(1, 11), 0);
        Scenes.roundTrips(x, 2, 9, 10, 0, 1);
        Check.due("has begun", x.node(2, 11), 0);
        GroupCast y = new GroupCast(4);
        y.suspect(3, 0);
        Check.due("flushes", y.node(3, 11), 14);
        y.suspect(3, 1);
        Check.due("has given up", y.node(3, 11), 0);
        GroupCast z = new GroupCast(4);
        z.suspect(2, 3);
        z.suspect(3, 2);
        Check.dueDeliver("flush 2", z, 2, 0, 7);
        Check.due("flushes", z.node(2, 11), 7);
        z.suspect(0, 3);
        z.timeout(0);
        Check.due("node 0 flushes, too, by 4", z.node(0, 5), 4);
        Check.dueDeliver("flushed 2, elect, flush 4", z, 0, 2, 8, 5, 7);
        Check.due("has promised a higher number", z.node(2, 11), 0);
    }

    private static void membersToBeOfOneThatIsDown() {
        Check.promise(7, "11 the members to be: of one that is not live, as it was");
        GroupCast x = new GroupCast(4);
        x.suspect(3, 0);
        x.crash(3);
        Check.due("task", x.node(3, 1), 3);
        Check.due("members to be", x.node(3, 11), 14);
    }

    private static void noSuchNode() {
        Check.promise(7, "NONE: there is none such: no such node");
        for (int n = 2; n <= 7; n++) {
            GroupCast x = new GroupCast(n);
            for (int node : new int[] {-1, n, 8, Integer.MIN_VALUE, Integer.MAX_VALUE}) {
                for (int what = -1; what <= 12; what++) {
                    Check.due("node(" + node + ", " + what + ") of " + n, x.node(node, what), -1);
                }
            }
        }
    }

    private static void noSuchThing() {
        Check.promise(7, "NONE: there is none such: no such thing of it");
        GroupCast x = new GroupCast(5);
        for (int what : new int[] {-1, -2, 12, 13, 256, Integer.MIN_VALUE, Integer.MAX_VALUE}) {
            for (int node = 0; node < 5; node++) {
                Check.due("node(" + node + ", " + what + ")", x.node(node, what), -1);
            }
        }
        Check.due("the last that there is", x.node(0, 11), 0);
    }

    private static void lookingChangesNothing() {
        Check.promise(7, "Of a node: to look changes nothing");
        GroupCast x = Scenes.withLetter(8);
        String before = Check.seen(x, 3);
        Check.dueUnchanged("seen twice", x, 3, before);
    }
}
