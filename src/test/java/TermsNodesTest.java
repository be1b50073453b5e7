/** Terms: nodes, and what each has; MOST; views; blocked. */
public final class TermsNodesTest {
    public static void main(String[] args) {
        twoToSevenNodes();
        downDoesNothing();
        outDoesNothing();
        mostOfAllHold();
        mostOfAllAreToBe();
        mostOfAllNotOfTheMembers();
        allMembersAtFirst();
        theLeaderIsTheHighestMember();
        sixtyActsAtMost();
        sixtyActsOfAnother();
        sixtyActsThroughAChangeOfView();
        theFirstSoManyAreCarriedOut();
        zerosAtFirst();
        blocked();
        Check.end();
    }

    private static void twoToSevenNodes() {
        Check.terms("NODES 0 .. N - 1 (2 .. 7)");
        for (int n = 2; n <= 7; n++) {
            GroupCast x = new GroupCast(n);
            for (int node = -2; node <= 9; node++) {
                boolean there = node >= 0 && node < n;
                Check.due("node(" + node + ", 0) of " + n, x.node(node, 0), there ? 0 : -1);
                Check.due("depth(" + node + ") of " + n, x.depth(node), there ? 0 : -1);
                Check.due("timeout(" + node + ") of " + n, x.timeout(node), there ? 0 : -1);
                Check.due("deliver(" + node + ", 0) of " + n, x.deliver(node, 0), there ? 0 : -1);
                Check.due("deliver(0, " + node + ") of " + n, x.deliver(0, node), there ? 0 : -1);
            }
        }
    }

    private static void downDoesNothing() {
        Check.terms("LIVE, DOWN or OUT (these do nothing any more): DOWN");
        GroupCast x = new GroupCast(3);
        x.submit(2, 8);
        x.submit(0, 16);
        x.suspect(0, 2);
        Check.dueDeliver("order", x, 2, 0, 2);
        x.crash(2);
        x.crash(0);
        Check.due("its time", x.timeout(0), 0);
        Check.due("an act", x.submit(0, 8), 0);
        Check.due("an act for the leader", x.submit(2, 8), 0);
        Check.due("a suspicion", x.suspect(2, 0), 0);
        Check.dueDeliver("pass, held", x, 0, 2, 21, 23);
        Check.dueNode("the leader", x, 2, 1, 0, 0, 7, 2, 0, 0, 1, 0, 0, 0, 0);
        Check.dueNode("the other", x, 0, 1, 1, 0, 7, 2, 0, 4, 1, 0, 0, 0, 0);
        Check.dueDeliver("what they sent before comes", x, 2, 1, 2);
        Check.dueHeld("and is heeded", x, 1, 8);
    }

    private static void outDoesNothing() {
        Check.terms("LIVE, DOWN or OUT (these do nothing any more): OUT");
        GroupCast x = new GroupCast(3);
        x.submit(0, 16);
        x.suspect(1, 2);
        Scenes.changeView(x, 1, 1);
        Check.dueDeliver("left", x, 1, 2, 12);
        Check.dueDeliver("a pass is lost", x, 0, 2, 21);
        Check.due("an act", x.submit(2, 8), 0);
        Check.due("a suspicion", x.suspect(2, 0), 0);
        Check.due("its time", x.timeout(2), 0);
        Check.due("a crash", x.crash(2), false);
        Check.dueNode("all is as it was", x, 2, 2, 0, 0, 7, 2, 0, 0, 0, 0, 0, 0, 0);
    }

    private static void mostOfAllHold() {
        Check.terms("MOST is more than N / 2 of them: that hold");
        int[] most = {0, 0, 2, 2, 3, 3, 4, 4};
        for (int n = 2; n <= 7; n++) {
            GroupCast x = new GroupCast(n);
            x.submit(n - 1, 8);
            for (int holders = 2; holders <= n; holders++) {
                Check.due((holders - 1) + " of " + n, x.node(n - 1, 8), holders - 1 >= most[n] ? 1 : 0);
                Scenes.roundTrips(x, n - 1, 2, 3, holders - 2);
                Check.due(holders + " of " + n, x.node(n - 1, 8), holders >= most[n] ? 1 : 0);
            }
        }
    }

    private static void mostOfAllAreToBe() {
        Check.terms("MOST is more than N / 2 of them: the members to be");
        int[] most = {0, 0, 2, 2, 3, 3, 4, 4};
        for (int n = 2; n <= 7; n++) {
            GroupCast x = new GroupCast(n);
            for (int left = n - 1; left >= 1; left--) {
                Check.due("suspect", x.suspect(n - 1, n - 1 - left), 1);
                Check.due(left + " of " + n, x.node(n - 1, 1), left >= most[n] ? 3 : 0);
            }
            Check.due("flushes of " + n, x.count(4), n - most[n]);
        }
    }

    private static void mostOfAllNotOfTheMembers() {
        Check.terms("MOST is more than N / 2 of them: of all nodes, not of the members");
        GroupCast x = Scenes.withoutTheHighest(6);
        x.submit(4, 8);
        Scenes.roundTrips(x, 4, 2, 3, 0, 1);
        Check.due("three of the five members are not most of six", x.node(4, 8), 0);
        Scenes.roundTrips(x, 4, 2, 3, 2);
        Check.due("four are", x.node(4, 8), 1);
        GroupCast y = Scenes.withoutTheHighest(6);
        y.suspect(4, 0);
        Check.due("four of six are most", y.node(4, 1), 3);
        y.suspect(4, 1);
        Check.due("three of the five members are not most of six", y.node(4, 1), 0);
    }

    private static void allMembersAtFirst() {
        Check.terms("its VIEW, a NUMBER (0 at first) with MEMBERS (all at first)");
        for (int n = 2; n <= 7; n++) {
            GroupCast x = new GroupCast(n);
            for (int node = 0; node < n; node++) {
                Check.due("number", x.node(node, 2), 0);
                Check.due("members", x.node(node, 3), (1 << n) - 1);
            }
        }
    }

    private static void theLeaderIsTheHighestMember() {
        Check.terms("whose LEADER is the highest member");
        GroupCast x = Scenes.withoutTheHighest(7);
        Check.due("of all", x.node(6, 4), 6);
        Check.due("of all but the highest", x.node(0, 4), 5);
        x.suspect(5, 2);
        for (int peer : new int[] {0, 1, 3, 4}) {
            Scenes.roundTrips(x, 5, 7, 8, peer);
        }
        Scenes.roundTrips(x, 5, 9, 10, 0, 1, 3, 4);
        Check.due("members", x.node(5, 3), 59);
        Check.due("not less for a gap", x.node(5, 4), 5);
        GroupCast y = Scenes.ledByAnotherThanTheFlusher();
        for (int node = 0; node <= 3; node++) {
            Check.due("though another flushed", y.node(node, 4), 3);
        }
        Check.due("down or not", y.node(4, 4), 4);
    }

    private static void sixtyActsAtMost() {
        Check.terms("what it HOLDS, a row of acts (60 at most)");
        GroupCast x = Scenes.fullOfActs(3);
        Check.due("the leader holds", x.node(2, 7), 60);
        Check.due("no more", x.submit(2, 8), 3);
        x.submit(0, 16);
        Check.dueDeliver("not by a pass", x, 0, 2, 1);
        Check.due("the leader holds", x.node(2, 7), 60);
        Check.due("the last", x.held(2, 59), 8 * 59);
        Check.due("none behind", x.held(2, 60), -100001);
        Check.due("no order for it", x.flying(2, 0), 60);
    }

    private static void sixtyActsOfAnother() {
        Check.terms("what it HOLDS, a row of acts (60 at most): no leader");
        GroupCast x = Scenes.fullOfActs(2);
        Check.dueDeliver("orders", x, 1, 0, Scenes.times(60, 2));
        Check.due("it holds", x.node(0, 7), 60);
        Check.due("the last", x.held(0, 59), 8 * 59);
        Check.dueDeliver("held", x, 0, 1, Scenes.times(60, 3));
        Check.dueDeliver("do", x, 1, 0, Scenes.times(60, 4));
        Check.due("all are carried out by the leader", x.node(1, 8), 60);
        Check.due("all are carried out by the other", x.node(0, 8), 60);
    }

    private static void sixtyActsThroughAChangeOfView() {
        Check.terms("what it HOLDS, a row of acts (60 at most): in the next view");
        GroupCast x = Scenes.fullOfActs(3);
        Check.dueDeliver("orders", x, 2, 1, Scenes.times(60, 2));
        x.crash(2);
        x.suspect(1, 2);
        Scenes.toSync(x, 1, 0);
        Check.dueDeliver("sync", x, 1, 0, 9);
        Check.due("all are told", x.node(0, 7), 60);
        Check.due("the first", x.held(0, 0), 0);
        Check.due("the last", x.held(0, 59), 8 * 59);
        Check.dueDeliver("synced", x, 0, 1, 10);
        Check.dueDeliver("begin", x, 1, 0, 11);
        Check.due("all are carried out", x.node(0, 8) + x.node(1, 8), 120);
        Check.due("still no more", x.submit(1, 8), 3);
        x.submit(0, 8);
        Check.dueDeliver("not by a pass", x, 0, 1, 1);
        Check.due("lost", x.count(1), 1);
        Check.due("it holds", x.node(1, 7), 60);
    }

    private static void theFirstSoManyAreCarriedOut() {
        Check.terms("of which the first so many are CARRIED OUT");
        GroupCast x = new GroupCast(3);
        x.submit(2, 8);
        x.submit(2, 16);
        x.submit(2, 24);
        Check.dueDeliver("orders", x, 2, 0, 2, 2, 2);
        Check.dueDeliver("held", x, 0, 2, 3, 3);
        Check.dueStack("the first two", x, 2, 2, 1);
        Check.due("of three", x.node(2, 7), 3);
        Check.due("so many", x.node(2, 8), 2);
    }

    private static void zerosAtFirst() {
        Check.terms("a STAMP (0), a PROMISE (0), SUSPECTS (none), a TASK: 0 none");
        GroupCast x = new GroupCast(6);
        for (int node = 0; node < 6; node++) {
            Check.dueNode("at first", x, node, 0, 0, 0, 63, 5, 0, 0, 0, 0, 0, 0, 0);
        }
    }

    private static void blocked() {
        Check.terms("It is BLOCKED, if its promise is not its view's number");
        for (int kind = 7; kind <= 12; kind++) {
            GroupCast x = Scenes.withLetter(kind);
            for (int node = 0; node < 3; node++) {
                int want = x.node(node, 5) == x.node(node, 2) ? 0 : 1;
                Check.due("node " + node + " before letter " + kind, x.node(node, 10), want);
            }
        }
        GroupCast y = Scenes.withLetter(11);
        Check.due("who has begun is not", y.node(1, 10), 0);
        Check.due("who has promised is", y.node(0, 10), 1);
        Check.due("who knows nothing is not", y.node(2, 10), 0);
    }
}
