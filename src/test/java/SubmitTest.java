/** Promise 2: submit. */
public final class SubmitTest {
    public static void main(String[] args) {
        whatIsAnAct();
        whichNodes();
        addedByTheLeader();
        passedToTheLeader();
        passedToTheLeaderOfItsView();
        blocked();
        full();
        Check.end();
    }

    private static void whatIsAnAct() {
        int[] acts = {0, 8, -8, 16, 8000, -8000, 7992, 1, 2, 3, 4, 5};
        GroupCast x = new GroupCast(2);
        for (int i = 0; i < acts.length; i++) {
            Check.due("submit(1, " + acts[i] + ")", x.submit(1, acts[i]), 1);
            Check.due("held(1, " + i + ")", x.held(1, i), acts[i]);
        }
        int[] none = {6, 7, 9, 10, 11, 12, 13, 17, -1, -2, -3, -4, -5, -6, -7, -9, 8001, 8004, 8008, -8001, -8007, -8008,
            80000, Integer.MAX_VALUE, Integer.MAX_VALUE - 7, Integer.MIN_VALUE, Integer.MIN_VALUE + 1};
        for (int act : none) {
            Check.due("submit(1, " + act + ")", x.submit(1, act), -1);
            Check.due("submit(0, " + act + ")", x.submit(0, act), -1);
        }
        Check.due("what it holds", x.node(1, 7), acts.length);
        Check.due("letters", x.count(0), acts.length);
    }

    private static void whichNodes() {
        GroupCast x = new GroupCast(4);
        for (int node : new int[] {-1, 4, 7, Integer.MIN_VALUE, Integer.MAX_VALUE}) {
            Check.due("submit(" + node + ", 8)", x.submit(node, 8), -1);
        }
        x.crash(3);
        x.crash(0);
        Check.due("submit to the leader that is down", x.submit(3, 8), 0);
        Check.due("submit to another that is down", x.submit(0, 8), 0);
        Check.due("no act, to one that is down", x.submit(0, 6), -1);
        Check.due("nothing was sent", x.count(0), 0);
        Check.due("submit with a leader that is down", x.submit(1, 8), 1);
        Check.due("the letter", x.letter(1, 3, 0), 1);
    }

    private static void addedByTheLeader() {
        GroupCast x = new GroupCast(4);
        Check.due("submit(3, 40)", x.submit(3, 40), 1);
        Check.due("submit(3, 5)", x.submit(3, 5), 1);
        Check.dueNode("added", x, 3, 0, 0, 0, 15, 3, 0, 0, 2, 0);
        Check.due("held(3, 0)", x.held(3, 0), 40);
        Check.due("held(3, 1)", x.held(3, 1), 5);
        for (int to = 0; to < 3; to++) {
            Check.due("flying to " + to, x.flying(3, to), 2);
            Check.dueLetter("the first", x, 3, to, 2, 0, 0, 1);
            x.deliver(3, to);
            Check.dueLetter("the second", x, 3, to, 2, 0, 1, 1);
        }
        Check.due("letters", x.count(0), 9);
    }

    private static void passedToTheLeader() {
        GroupCast x = new GroupCast(4);
        Check.due("submit(1, 48)", x.submit(1, 48), 1);
        Check.due("flying to the leader", x.flying(1, 3), 1);
        Check.due("flying on all", x.flying(-1, 0), 1);
        Check.dueLetter("passed", x, 1, 3, 1, 0, 0, 1);
        Check.due("not held yet", x.node(1, 7) + x.node(3, 7), 0);
        Check.dueDeliver("passed", x, 1, 3, 1);
        Check.due("held by the leader", x.held(3, 0), 48);
        Check.due("an order to who passed it", x.letter(3, 1, 0), 2);
    }

    private static void passedToTheLeaderOfItsView() {
        GroupCast x = Scenes.withoutTheHighest(3);
        Check.due("submit(0, 8)", x.submit(0, 8), 1);
        Check.due("to the new leader", x.letter(0, 1, 0), 1);
        Check.due("not to the old one", x.flying(0, 2), 0);
        Check.due("submit(1, 8)", x.submit(1, 8), 1);
        Check.dueLetter("the new leader's order", x, 1, 0, 2, 1, 0, 1);
        Check.due("no order to who has left", x.letter(1, 2, 0), 12);
        Check.due("only that letter", x.flying(1, 2), 1);
        Check.dueDeliver("to who has left", x, 1, 2, 12);
        Check.due("submit to one that is out", x.submit(2, 8), 0);
        Check.due("no act, to one that is out", x.submit(2, 7), -1);
    }

    private static void blocked() {
        GroupCast x = new GroupCast(3);
        x.suspect(1, 2);
        Check.due("one that flushes", x.submit(1, 8), 2);
        Check.due("one that does not know yet", x.submit(0, 8), 1);
        x.deliver(1, 0);
        Check.due("one that has promised", x.submit(0, 8), 2);
        Check.due("no act, to one that is blocked", x.submit(0, 6), -1);
        x.crash(0);
        Check.due("one that is blocked and down", x.submit(0, 8), 0);
        Check.due("the letters", x.count(0), 3);
    }

    private static void full() {
        GroupCast x = new GroupCast(3);
        for (int i = 0; i < 60; i++) {
            Check.due("act " + i, x.submit(2, 8 * i), 1);
        }
        Check.due("one more", x.submit(2, 8), 3);
        Check.due("and again", x.submit(2, 5), 3);
        Check.due("no act", x.submit(2, 6), -1);
        Check.due("it holds", x.node(2, 7), 60);
        Check.due("the last of them", x.held(2, 59), 8 * 59);
        Check.due("letters", x.count(0), 120);
        for (int i = 0; i < 60; i++) {
            x.deliver(2, 0);
        }
        Check.due("another that holds 60", x.node(0, 7), 60);
        Check.due("passes what it is given", x.submit(0, 8), 1);
        Check.due("letters", x.count(0), 181);
        x.suspect(2, 1);
        Check.due("a leader that is full and blocked", x.submit(2, 8), 2);
        x.crash(2);
        Check.due("a leader that is full and down", x.submit(2, 8), 0);
    }
}
