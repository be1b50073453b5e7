/** Promise 13: count. */
public final class CountTest {
    public static void main(String[] args) {
        wrongArguments();
        ordinary();
        passedActsThatAreLost();
        whatIsNotHeededIsNotLost();
        actsThatDoNothing();
        Check.end();
    }

    private static void dueCounts(String when, GroupCast x, int... wanted) {
        for (int what = 0; what < wanted.length; what++) {
            Check.due(when + ": count(" + what + ")", x.count(what), wanted[what]);
        }
    }

    private static void wrongArguments() {
        GroupCast x = new GroupCast(3);
        for (int what : new int[] {-1, 5, 6, Integer.MIN_VALUE, Integer.MAX_VALUE}) {
            Check.due("count(" + what + ")", x.count(what), -1);
        }
    }

    private static void ordinary() {
        GroupCast x = new GroupCast(4);
        x.submit(3, 8);
        x.submit(0, 8);
        dueCounts("submitted", x, 4, 0, 0, 0, 0);
        x.crash(3);
        x.deliver(0, 3);
        dueCounts("lost", x, 4, 1, 0, 0, 0);
        Check.dueDeliver("order", x, 3, 0, 2);
        Check.dueDeliver("order", x, 3, 1, 2);
        Check.dueDeliver("order", x, 3, 2, 2);
        dueCounts("held", x, 7, 1, 0, 0, 0);
        x.suspect(2, 3);
        dueCounts("flush", x, 9, 1, 0, 0, 1);
        x.timeout(2);
        dueCounts("flush anew", x, 11, 1, 0, 0, 2);
        for (int peer = 0; peer < 2; peer++) {
            Check.dueDeliver("flush", x, 2, peer, 7, 7);
            Check.dueDeliver("flushed", x, peer, 2, 8, 8);
        }
        dueCounts("sync", x, 17, 1, 0, 0, 2);
        for (int peer = 0; peer < 2; peer++) {
            Check.dueDeliver("sync", x, 2, peer, 9);
            Check.dueDeliver("synced", x, peer, 2, 10);
        }
        dueCounts("one begins", x, 22, 1, 1, 1, 2);
        Check.dueDeliver("begin", x, 2, 0, 11);
        dueCounts("another begins", x, 22, 1, 2, 2, 2);
        Check.dueDeliver("begin", x, 2, 1, 11);
        dueCounts("the third begins", x, 22, 1, 3, 3, 2);
        Check.dueDeliver("held, left", x, 2, 3, 23, 32);
        dueCounts("lost", x, 22, 3, 3, 3, 2);
    }

    private static void passedActsThatAreLost() {
        GroupCast x = new GroupCast(4);
        x.submit(0, 8);
        x.submit(0, 16);
        x.suspect(3, 1);
        Check.dueDeliver("pass to a leader that is blocked", x, 0, 3, 1);
        dueCounts("lost", x, 4, 1, 0, 0, 1);
        Check.due("it is not held", x.node(3, 7), 0);
        GroupCast y = new GroupCast(2);
        y.submit(0, 8);
        for (int i = 0; i < 60; i++) {
            y.submit(1, 8);
        }
        Check.dueDeliver("pass to a leader that is full", y, 0, 1, 1);
        dueCounts("lost", y, 61, 1, 0, 0, 0);
        Check.due("it is not held", y.node(1, 7), 60);
    }

    private static void whatIsNotHeededIsNotLost() {
        GroupCast x = new GroupCast(3);
        x.submit(2, 8);
        x.suspect(1, 2);
        Check.dueDeliver("an order to one that is blocked", x, 2, 1, 2);
        Check.due("it is not held", x.node(1, 7), 0);
        dueCounts("none is lost", x, 3, 0, 0, 0, 1);
    }

    private static void actsThatDoNothing() {
        GroupCast x = new GroupCast(2);
        x.submit(1, 4);
        Check.dueDeliver("order", x, 1, 0, 2);
        Check.dueDeliver("held", x, 0, 1, 3);
        Check.dueDeliver("do", x, 1, 0, 4);
        dueCounts("they are carried out", x, 3, 0, 2, 0, 0);
    }
}
