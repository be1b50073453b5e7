/** Promise 2: submit. */
public final class Promise02SubmitTest {
    private static final int[] NO_NODES_OF_FOUR = {-1, 4, 7, Integer.MIN_VALUE, Integer.MAX_VALUE};
    private static final int[] NO_ACTS = {6, 7, 9, 10, 11, 12, 13, 17, -1, -2, -3, -4, -5, -6, -7, -9, 7999, 8001, 8004,
        8008, -7999, -8001, -8007, -8008, 80000, Integer.MAX_VALUE, Integer.MAX_VALUE - 7, Integer.MIN_VALUE,
        Integer.MIN_VALUE + 1};

    public static void main(String[] args) {
        addedByTheLeader();
        passedToTheLeader();
        passedToTheLeaderOfItsView();
        passedThoughTheLetterIsLost();
        blocked();
        blockedAndFull();
        theSixtiethAndOneMore();
        fullInAnotherView();
        anotherThatHoldsSixty();
        down();
        out();
        noSuchNode();
        noAct();
        noActBeforeAllElse();
        refusedCallsChangeNothing();
        Check.end();
    }

    private static void addedByTheLeader() {
        Check.promise(2, "1: it is ADDED (by a leader)");
        GroupCast x = new GroupCast(4);
        Check.due("submit(3, 40)", x.submit(3, 40), 1);
        Check.due("submit(3, 5)", x.submit(3, 5), 1);
        Check.dueNode("added", x, 3, 0, 0, 0, 15, 3, 0, 0, 2, 0);
        Check.dueHeld("added", x, 3, 40, 5);
        for (int to = 0; to < 3; to++) {
            Check.due("flying to " + to, x.flying(3, to), 2);
            Check.dueLetter("the first", x, 3, to, 2, 0, 0, 1);
            x.deliver(3, to);
            Check.dueLetter("the second", x, 3, to, 2, 0, 1, 1);
        }
        Check.due("letters", x.count(0), 9);
    }

    private static void passedToTheLeader() {
        Check.promise(2, "or PASSED to the leader of its view");
        GroupCast x = new GroupCast(4);
        Check.due("submit(1, 48)", x.submit(1, 48), 1);
        Check.dueFlying("to the leader alone", x, 1, 0, 0, 0, 1);
        Check.due("flying on all", x.flying(-1, 0), 1);
        Check.dueLetter("passed", x, 1, 3, 1, 0, 0, 1);
        Check.due("not held yet", x.node(1, 7) + x.node(3, 7), 0);
        Check.dueDeliver("passed", x, 1, 3, 1);
        Check.dueHeld("the leader", x, 3, 48);
        Check.due("an order to who passed it", x.letter(3, 1, 0), 2);
        x.crash(3);
        Check.due("to a leader that is down", x.submit(0, 8), 1);
        x.suspect(0, 3);
        Check.due("to a leader that it suspects", x.submit(0, 8), 1);
        Check.dueFlying("two", x, 0, 0, 1, 1, 2);
    }

    private static void passedToTheLeaderOfItsView() {
        Check.promise(2, "PASSED to the leader of its view: of another than the first");
        GroupCast x = Scenes.withoutTheHighest(3);
        Check.due("submit(0, 8)", x.submit(0, 8), 1);
        Check.due("to the new leader", x.letter(0, 1, 0), 1);
        Check.due("not to the old one", x.flying(0, 2), 0);
        Check.due("submit(1, 8)", x.submit(1, 8), 1);
        Check.dueLetter("the new leader's order", x, 1, 0, 2, 1, 0, 1);
        Check.due("no order to who is left behind", x.letter(1, 2, 0), 12);
        Check.due("only that letter", x.flying(1, 2), 1);
    }

    private static void passedThoughTheLetterIsLost() {
        Check.promise(2, "1: PASSED to the leader, while 500 letters fly");
        GroupCast x = Scenes.fullOfLetters(500);
        Check.due("submit(1, 8)", x.submit(1, 8), 1);
        Check.due("its letter is lost", x.flying(1, 6), 0);
        Check.due("submit(6, 8)", x.submit(6, 8), 1);
        Check.dueHeld("the leader holds it", x, 6, 8);
        Check.dueFlying("but orders it to nobody", x, 6, 0, 0, 0, 0, 0, 0);
        Check.dueCounts("one and six are lost", x, 507, 7);
    }

    private static void blocked() {
        Check.promise(2, "2: it is blocked");
        GroupCast x = new GroupCast(3);
        x.suspect(1, 2);
        Check.due("one that flushes", x.submit(1, 8), 2);
        Check.due("one that does not know yet", x.submit(0, 8), 1);
        x.deliver(1, 0);
        Check.due("one that has promised", x.submit(0, 8), 2);
        x.deliver(0, 1);
        Check.due("it syncs", x.node(1, 1), 4);
        Check.due("one that syncs", x.submit(1, 8), 2);
        x.deliver(1, 0);
        Check.due("one that has synced", x.submit(0, 8), 2);
        x.deliver(0, 1);
        Check.due("one that has begun", x.submit(1, 8), 1);
        Check.due("one that has not begun yet", x.submit(0, 8), 2);
        x.deliver(1, 0);
        Check.due("one that has begun", x.submit(0, 8), 1);
        GroupCast y = new GroupCast(4);
        y.suspect(3, 0);
        Check.due("a leader that flushes", y.submit(3, 8), 2);
        y.suspect(3, 1);
        Check.due("a leader that has no task, but is blocked", y.submit(3, 8), 2);
        GroupCast z = new GroupCast(4);
        z.suspect(0, 3);
        Check.due("one that asks is not blocked", z.submit(0, 8), 1);
    }

    private static void blockedAndFull() {
        Check.promise(2, "2: it is blocked, and holds 60");
        GroupCast x = Scenes.fullOfActs(3);
        x.suspect(2, 1);
        Check.due("a leader that is full and blocked", x.submit(2, 8), 2);
    }

    private static void theSixtiethAndOneMore() {
        Check.promise(2, "3: it is the leader, and holds 60");
        GroupCast x = new GroupCast(3);
        for (int i = 0; i < 60; i++) {
            Check.due("act " + i, x.submit(2, 8 * i), 1);
        }
        Check.due("it holds", x.node(2, 7), 60);
        Check.due("one more", x.submit(2, 8), 3);
        Check.due("and again", x.submit(2, 5), 3);
        Check.due("it holds", x.node(2, 7), 60);
        Check.due("the last of them", x.held(2, 59), 8 * 59);
        Check.due("letters", x.count(0), 120);
        for (int i = 0; i < 60; i++) {
            Check.dueDeliver("order", x, 2, 0, 2);
            Check.dueDeliver("held", x, 0, 2, 3);
        }
        Check.due("all are carried out", x.node(2, 8), 60);
        Check.due("that makes no room", x.submit(2, 8), 3);
    }

    private static void fullInAnotherView() {
        Check.promise(2, "3: it is the leader, and holds 60: of another view");
        GroupCast x = Scenes.fullOfActs(3);
        Check.dueDeliver("58 orders", x, 2, 0, Scenes.times(58, 2));
        Check.dueDeliver("58 held", x, 0, 2, Scenes.times(58, 3));
        x.suspect(1, 2);
        x.crash(2);
        Check.dueDeliver("flush", x, 1, 0, 7);
        Check.dueDeliver("flushed", x, 0, 1, 8);
        Check.dueDeliver("sync", x, 1, 0, 9);
        Check.dueDeliver("synced", x, 0, 1, 10);
        Check.due("it holds", x.node(1, 7), 58);
        Check.due("the 59th", x.submit(1, 8), 1);
        Check.due("the 60th", x.submit(1, 16), 1);
        Check.due("one more", x.submit(1, 24), 3);
        Check.due("the last", x.held(1, 59), 16);
        Check.due("there is no act 60", x.held(1, 60), -100001);
    }

    private static void anotherThatHoldsSixty() {
        Check.promise(2, "3: it is the leader: another that holds 60 passes on");
        GroupCast x = Scenes.fullOfActs(3);
        Check.dueDeliver("60 orders", x, 2, 0, Scenes.times(60, 2));
        Check.due("it holds", x.node(0, 7), 60);
        Check.due("submit(0, 8)", x.submit(0, 8), 1);
        Check.due("60 held and a pass", x.flying(0, 2), 61);
    }

    private static void down() {
        Check.promise(2, "0: it is not live: DOWN");
        GroupCast x = new GroupCast(4);
        x.crash(3);
        x.crash(0);
        Check.due("the leader", x.submit(3, 8), 0);
        Check.due("another", x.submit(0, 8), 0);
        Check.due("nothing was sent", x.count(0), 0);
        Check.due("nothing is held", x.node(3, 7), 0);
        x.suspect(1, 3);
        x.timeout(1);
        x.crash(1);
        Check.due("one that is blocked, too", x.submit(1, 8), 0);
        GroupCast y = Scenes.fullOfActs(2);
        y.crash(1);
        Check.due("a leader that holds 60, too", y.submit(1, 8), 0);
    }

    private static void out() {
        Check.promise(2, "0: it is not live: OUT");
        GroupCast x = Scenes.withoutTheHighest(3);
        Check.due("before it knows", x.submit(2, 8), 1);
        Check.dueDeliver("left", x, 1, 2, 12);
        Check.due("after", x.submit(2, 8), 0);
        Check.dueHeld("only the first", x, 2, 8);
    }

    private static void noSuchNode() {
        Check.promise(2, "NONE: there is no such node");
        GroupCast x = new GroupCast(4);
        for (int node : NO_NODES_OF_FOUR) {
            Check.due("submit(" + node + ", 8)", x.submit(node, 8), -1);
            Check.due("submit(" + node + ", 6)", x.submit(node, 6), -1);
        }
        for (int n = 2; n <= 7; n++) {
            Check.due("the first that is none of " + n, new GroupCast(n).submit(n, 8), -1);
            Check.due("the last of " + n, new GroupCast(n).submit(n - 1, 8), 1);
        }
    }

    private static void noAct() {
        Check.promise(2, "NONE: it is no act");
        GroupCast x = new GroupCast(2);
        for (int act : NO_ACTS) {
            Check.due("submit(1, " + act + ")", x.submit(1, act), -1);
            Check.due("submit(0, " + act + ")", x.submit(0, act), -1);
        }
        Check.due("nothing is held", x.node(1, 7), 0);
        Check.due("letters", x.count(0), 0);
    }

    private static void noActBeforeAllElse() {
        Check.promise(2, "NONE: it is no act, whatever the node is at");
        GroupCast x = Scenes.fullOfActs(4);
        Check.due("to one that holds 60", x.submit(3, 6), -1);
        x.suspect(3, 0);
        Check.due("to one that is blocked", x.submit(3, 6), -1);
        x.crash(3);
        Check.due("to one that is down", x.submit(3, 6), -1);
        GroupCast y = Scenes.withoutTheHighest(3);
        y.deliver(1, 2);
        Check.due("to one that is out", y.submit(2, 7), -1);
    }

    private static void refusedCallsChangeNothing() {
        Check.promise(2, "0, 2, NONE: nothing is added, and nothing sent");
        GroupCast x = new GroupCast(4);
        x.submit(3, 8);
        x.crash(0);
        x.suspect(2, 3);
        String before = Check.seen(x, 4);
        Check.due("down", x.submit(0, 8), 0);
        Check.due("blocked", x.submit(2, 8), 2);
        Check.due("no node", x.submit(4, 8), -1);
        Check.due("no act", x.submit(3, 8008), -1);
        Check.dueUnchanged("after all of these", x, 4, before);
        Check.promise(2, "3: nothing is added, and nothing sent");
        GroupCast y = Scenes.fullOfActs(2);
        before = Check.seen(y, 2);
        Check.due("full", y.submit(1, 8), 3);
        Check.dueUnchanged("after that", y, 2, before);
    }
}
