/** Promise 13: count. */
public final class Promise13CountTest {
    public static void main(String[] args) {
        throughAChangeOfView();
        sentLostOnesToo();
        lostAsTheyAreSent();
        lostAsTheyCome();
        lostByALeader();
        notHeededIsNotLost();
        carriedOutByAll();
        actsThatDoNothing();
        carriedOutOnce();
        begins();
        flushesThatWereBegun();
        flushesWithoutMost();
        anotherNumber();
        lookingChangesNothing();
        Check.end();
    }

    private static void throughAChangeOfView() {
        Check.promise(13, "How many: what = 0 .. 4");
        GroupCast x = new GroupCast(4);
        Check.dueCounts("at first", x, 0, 0, 0, 0, 0);
        x.submit(3, 8);
        x.submit(0, 8);
        Check.dueCounts("submitted", x, 4, 0, 0, 0, 0);
        x.crash(3);
        x.deliver(0, 3);
        Check.dueCounts("lost", x, 4, 1, 0, 0, 0);
        Check.dueDeliver("order", x, 3, 0, 2);
        Check.dueDeliver("order", x, 3, 1, 2);
        Check.dueDeliver("order", x, 3, 2, 2);
        Check.dueCounts("held", x, 7, 1, 0, 0, 0);
        x.suspect(2, 3);
        Check.dueCounts("flush", x, 9, 1, 0, 0, 1);
        x.timeout(2);
        Check.dueCounts("flush anew", x, 11, 1, 0, 0, 2);
        for (int peer = 0; peer < 2; peer++) {
            Check.dueDeliver("flush", x, 2, peer, 7, 7);
            Check.dueDeliver("flushed", x, peer, 2, 8, 8);
        }
        Check.dueCounts("sync", x, 17, 1, 0, 0, 2);
        Scenes.roundTrips(x, 2, 9, 10, 0, 1);
        Check.dueCounts("one begins", x, 22, 1, 1, 1, 2);
        Check.dueDeliver("begin", x, 2, 0, 11);
        Check.dueCounts("another begins", x, 22, 1, 2, 2, 2);
        Check.dueDeliver("begin", x, 2, 1, 11);
        Check.dueCounts("the third begins", x, 22, 1, 3, 3, 2);
        Check.dueDeliver("held, left", x, 2, 3, 23, 32);
        Check.dueCounts("lost", x, 22, 3, 3, 3, 2);
    }

    private static void sentLostOnesToo() {
        Check.promise(13, "0 letters that were sent (lost ones, too)");
        GroupCast x = Scenes.fullOfLetters(500);
        Check.dueCounts("500 fly", x, 500, 0);
        x.submit(0, 8);
        Check.dueCounts("one more", x, 501, 1);
        x.crash(0);
        Check.dueDeliver("one is lost as it comes", x, 5, 0, 27);
        Check.dueCounts("that was sent before", x, 501, 2);
    }

    private static void lostAsTheyAreSent() {
        Check.promise(13, "1 lost: as they are sent");
        GroupCast x = Scenes.fullOfLetters(498);
        Check.due("six orders", x.submit(6, 8), 1);
        Check.dueCounts("there is room for two", x, 504, 4);
    }

    private static void lostAsTheyCome() {
        Check.promise(13, "1 lost: as they come to a node that is not live");
        for (int kind = 1; kind <= 12; kind++) {
            GroupCast x = Scenes.withLetter(kind);
            x.crash(Scenes.LETTER_TO[kind]);
            Check.due("none yet", x.count(1), 0);
            x.deliver(Scenes.LETTER_FROM[kind], Scenes.LETTER_TO[kind]);
            Check.due("kind " + kind, x.count(1), 1);
        }
    }

    private static void lostByALeader() {
        Check.promise(13, "1 lost: an act that is passed, and not added");
        GroupCast x = new GroupCast(4);
        x.submit(0, 8);
        x.submit(0, 16);
        x.suspect(3, 1);
        Check.dueDeliver("pass to a leader that is blocked", x, 0, 3, 1);
        Check.dueCounts("lost", x, 4, 1, 0, 0, 1);
        Check.due("it is not held", x.node(3, 7), 0);
        GroupCast y = new GroupCast(2);
        y.submit(0, 8);
        for (int i = 0; i < 60; i++) {
            y.submit(1, 8);
        }
        Check.dueDeliver("pass to a leader that holds 60", y, 0, 1, 1);
        Check.dueCounts("lost", y, 61, 1, 0, 0, 0);
        Check.due("it is not held", y.node(1, 7), 60);
    }

    private static void notHeededIsNotLost() {
        Check.promise(13, "1 lost: not what comes, and is not heeded");
        GroupCast x = new GroupCast(3);
        x.submit(2, 8);
        x.suspect(1, 2);
        Check.dueDeliver("an order to one that is blocked", x, 2, 1, 2);
        Check.due("it is not held", x.node(1, 7), 0);
        Check.dueCounts("none is lost", x, 3, 0, 0, 0, 1);
    }

    private static void carriedOutByAll() {
        Check.promise(13, "2 acts that were carried out (by all nodes)");
        GroupCast x = new GroupCast(3);
        x.submit(2, 8);
        x.submit(2, 16);
        Check.dueDeliver("orders", x, 2, 0, 2, 2);
        Check.due("held alone", x.count(2), 0);
        Check.dueDeliver("held", x, 0, 2, 3, 3);
        Check.due("two by the leader", x.count(2), 2);
        Check.dueDeliver("do", x, 2, 0, 4);
        Check.due("one by another", x.count(2), 3);
        Check.dueDeliver("do", x, 2, 0, 4);
        Check.due("two by another", x.count(2), 4);
        Check.dueDeliver("orders, dos", x, 2, 1, 2, 2, 4, 4);
        Check.due("two by each", x.count(2), 6);
    }

    private static void actsThatDoNothing() {
        Check.promise(13, "2 acts that were carried out: those, too, that do nothing");
        GroupCast x = Machines.after(Machines.POP);
        Check.dueCounts("a pop of none", x, 3, 0, 2, 0, 0);
    }

    private static void carriedOutOnce() {
        Check.promise(13, "2 acts that were carried out: each once, by each");
        GroupCast x = new GroupCast(3);
        x.submit(2, 8);
        Check.dueDeliver("order", x, 2, 0, 2);
        Check.dueDeliver("held", x, 0, 2, 3);
        Check.dueDeliver("do", x, 2, 0, 4);
        Check.due("by 0 and 2", x.count(2), 2);
        x.suspect(2, 1);
        Scenes.toSync(x, 2, 0);
        Scenes.roundTrips(x, 2, 9, 10, 0);
        Check.dueDeliver("begin", x, 2, 0, 11);
        Check.dueCounts("not again as they begin", x, 11, 0, 2, 2, 1);
    }

    private static void begins() {
        Check.promise(13, "3 BEGINS (by all nodes)");
        for (int n = 3; n <= 7; n++) {
            GroupCast x = Scenes.withoutTheHighest(n);
            Check.due("all but one of " + n, x.count(3), n - 1);
        }
        GroupCast y = Scenes.withLetter(11);
        Check.due("the flusher alone", y.count(3), 1);
        y.suspect(0, 1);
        y.timeout(0);
        Check.due("node 0 flushes with node 2", y.node(0, 5), 3);
        Check.dueDeliver("begin with another number", y, 1, 0, 11);
        Check.due("it does not", y.count(3), 1);
    }

    private static void flushesThatWereBegun() {
        Check.promise(13, "4 FLUSHES that were begun");
        GroupCast x = new GroupCast(5);
        x.suspect(0, 4);
        Check.due("who asks has not", x.count(4), 0);
        x.timeout(0);
        Check.due("who was in time", x.count(4), 1);
        x.timeout(0);
        Check.due("anew", x.count(4), 2);
        x.suspect(0, 3);
        Check.due("anew, with fewer", x.count(4), 3);
        x.suspect(3, 4);
        Check.due("another", x.count(4), 4);
        x.suspect(4, 0);
        Check.due("the leader", x.count(4), 5);
    }

    private static void flushesWithoutMost() {
        Check.promise(13, "4 FLUSHES that were begun: not without MOST");
        GroupCast x = new GroupCast(2);
        x.suspect(1, 0);
        x.suspect(0, 1);
        Check.dueCounts("one of two", x, 0, 0, 0, 0, 0);
        GroupCast y = new GroupCast(5);
        y.suspect(4, 0);
        y.suspect(4, 1);
        y.suspect(4, 2);
        Check.dueCounts("two of five", y, 5, 0, 0, 0, 2);
    }

    private static void anotherNumber() {
        Check.promise(13, "NONE: another number");
        GroupCast x = new GroupCast(3);
        x.submit(2, 8);
        for (int what : new int[] {-1, -2, 5, 6, 256, Integer.MIN_VALUE, Integer.MAX_VALUE}) {
            Check.due("count(" + what + ")", x.count(what), -1);
        }
        Check.due("the first", x.count(0), 2);
        Check.due("the last", x.count(4), 0);
    }

    private static void lookingChangesNothing() {
        Check.promise(13, "How many: to look changes nothing");
        GroupCast x = Scenes.withLetter(10);
        String before = Check.seen(x, 3);
        for (int what = -1; what <= 5; what++) {
            x.count(what);
        }
        Check.dueUnchanged("after looking", x, 3, before);
    }
}
