/** Terms: TO ASK and TO FLUSH. TO SUSPECT and A TIMEOUT are looked at with promises 4 and 6. */
public final class TermsAskAndFlushTest {
    public static void main(String[] args) {
        askAllAbove();
        askNoneThatItSuspects();
        askNoneOutsideItsView();
        noneAbove();
        noneAboveOutsideItsView();
        membersToBe();
        membersToBeOutsideItsView();
        notMost();
        notMostKeepsThePromise();
        theNumbersOfEachNode();
        theLeastNumberAbove();
        flushGoesToTheOthers();
        Check.end();
    }

    private static void askAllAbove() {
        Check.terms("TO ASK: its task is ASKS; 5 ELECT goes to all members of its view above it");
        for (int node = 0; node < 6; node++) {
            GroupCast x = new GroupCast(7);
            x.suspect(node, 6);
            for (int to = 0; to < 7; to++) {
                int elect = to > node && to < 6 ? 5 : node == 5 && to < 5 ? 7 : -1;
                Check.due("from " + node + " to " + to, x.letter(node, to, 0), elect);
            }
            Check.due("task of " + node, x.node(node, 1), node == 5 ? 3 : 1);
        }
    }

    private static void askNoneThatItSuspects() {
        Check.terms("TO ASK: above it that it does not suspect");
        GroupCast x = new GroupCast(7);
        x.suspect(1, 0);
        x.suspect(1, 3);
        x.suspect(1, 5);
        x.suspect(1, 6);
        Check.dueFlying("2 and 4 alone", x, 1, 0, 0, 1, 0, 1, 0, 0);
        Check.due("it asks", x.node(1, 1), 1);
    }

    private static void askNoneOutsideItsView() {
        Check.terms("TO ASK: all members of its view: none that is no member");
        GroupCast x = Scenes.withoutTheHighest(5);
        x.suspect(0, 3);
        Check.dueFlying("1 and 2 alone", x, 0, 0, 1, 1, 0, 0);
        Check.due("node 4 is not suspected", x.node(0, 6), 8);
    }

    private static void noneAbove() {
        Check.terms("TO ASK: if there is none, it FLUSHES at once");
        GroupCast x = new GroupCast(5);
        x.suspect(2, 3);
        Check.due("it does not mind", x.node(2, 1), 0);
        x.suspect(2, 4);
        Check.dueNode("it flushes", x, 2, 0, 3, 0, 31, 4, 2, 24, 0, 0, 0, 1, 7);
        Check.dueFlying("flushes, no elect", x, 2, 1, 1, 0, 0, 0);
        Check.due("flush", x.letter(2, 0, 0), 7);
    }

    private static void noneAboveOutsideItsView() {
        Check.terms("TO ASK: if there is none: none but one that is no member");
        GroupCast x = Scenes.ledByAnotherThanTheFlusher();
        x.suspect(2, 3);
        Check.due("node 4 is not suspected", x.node(2, 6), 8);
        Check.dueNode("it flushes at once", x, 2, 0, 3, 1, 15, 3, 2, 8, 0, 0, 1, 1, 7);
    }

    private static void membersToBe() {
        Check.terms("TO FLUSH: the members to be are those of its view that it does not suspect");
        GroupCast x = new GroupCast(7);
        x.suspect(4, 1);
        x.suspect(4, 6);
        Check.due("it asks", x.node(4, 1), 1);
        x.timeout(4);
        Check.dueNode("0, 2, 3, 4 and 5", x, 4, 0, 3, 0, 127, 6, 4, 66, 0, 0, 0, 1, 61);
    }

    private static void membersToBeOutsideItsView() {
        Check.terms("TO FLUSH: those of its view: none that is no member");
        GroupCast x = Scenes.ledByAnotherThanTheFlusher();
        x.suspect(3, 0);
        Check.dueNode("not node 4, though it is not suspected", x, 3, 0, 3, 1, 15, 3, 3, 1, 0, 0, 1, 1, 14);
    }

    private static void notMost() {
        Check.terms("TO FLUSH: If they are not MOST of all N, its task is none");
        GroupCast x = new GroupCast(4);
        x.suspect(1, 0);
        x.suspect(1, 3);
        Check.due("it asks node 2", x.node(1, 1), 1);
        int sent = x.count(0);
        x.timeout(1);
        Check.dueNode("1 and 2 are not most of four", x, 1, 0, 0, 0, 15, 3, 0, 9, 0, 0, 0, 0, 0);
        Check.due("no letter", x.count(0), sent);
        Check.due("nothing begun", x.count(4), 0);
        Check.due("not blocked", x.submit(1, 8), 1);
    }

    private static void notMostKeepsThePromise() {
        Check.terms("TO FLUSH: If they are not MOST: its promise is as it was");
        GroupCast x = new GroupCast(3);
        x.suspect(2, 0);
        Check.dueNode("it flushes", x, 2, 0, 3, 0, 7, 2, 2, 1, 0, 0, 0, 1, 6);
        x.suspect(2, 1);
        Check.dueNode("no task", x, 2, 0, 0, 0, 7, 2, 2, 3, 0, 0, 0, 1, 0);
        Check.due("it is blocked still", x.submit(2, 8), 2);
        Check.due("and its time makes it flush no more", x.timeout(2), 0);
    }

    private static void theNumbersOfEachNode() {
        Check.terms("TO FLUSH: the least number above it that leaves its own number when it is divided by N");
        for (int n = 3; n <= 7; n++) {
            for (int node = 0; node < n - 1; node++) {
                GroupCast x = new GroupCast(n);
                x.suspect(node, n - 1);
                if (node < n - 2) {
                    x.timeout(node);
                }
                int first = node == 0 ? n : node;
                for (int i = 0; i < 4; i++) {
                    Check.due("number " + i + " of " + node + " of " + n, x.node(node, 5), first + i * n);
                    x.timeout(node);
                }
            }
            GroupCast y = new GroupCast(n);
            y.suspect(n - 1, 0);
            Check.due("the leader of " + n, y.node(n - 1, 5), n - 1);
            y.timeout(n - 1);
            Check.due("the leader of " + n + ", anew", y.node(n - 1, 5), n - 1 + n);
        }
    }

    private static void theLeastNumberAbove() {
        Check.terms("TO FLUSH: the least number above its promise, which was another's");
        for (int flusher = 0; flusher < 5; flusher++) {
            for (int node = 0; node < 5; node++) {
                if (node != flusher) {
                    theNextOf(flusher, node);
                }
            }
        }
    }

    /** Of seven: the flusher's number is promised by the node, which then flushes itself. */
    private static void theNextOf(int flusher, int node) {
        GroupCast x = new GroupCast(7);
        x.suspect(flusher, 6);
        x.timeout(flusher);
        int promised = flusher == 0 ? 7 : flusher;
        while (x.letter(flusher, node, 0) > 0) {
            x.deliver(flusher, node);
        }
        Check.due("promised", x.node(node, 5), promised);
        x.suspect(node, flusher);
        x.timeout(node);
        int want = promised + 1;
        while (want % 7 != node) {
            want++;
        }
        Check.due("of node " + node + " above " + promised, x.node(node, 5), want);
    }

    private static void flushGoesToTheOthers() {
        Check.terms("TO FLUSH: 7 FLUSH (the promise, the members to be) goes to the others of these");
        GroupCast x = new GroupCast(6);
        x.suspect(5, 1);
        Check.dueFlying("to the others", x, 5, 1, 0, 1, 1, 1, 0);
        for (int to : new int[] {0, 2, 3, 4}) {
            Check.dueLetter("flush", x, 5, to, 7, 5, 61, 0);
        }
    }
}
