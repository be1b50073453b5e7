/** Terms: what letters of the kinds 1 to 6 do. */
public final class TermsKinds01To06Test {
    public static void main(String[] args) {
        passToTheLeader();
        passOfTheSixtiethAndOneMore();
        passToALeaderThatIsBlocked();
        passToOneThatDoesNotLead();
        passToOneThatHasNotBegun();
        added();
        addedInAViewWithFewer();
        orderInItsPlace();
        orderOfAnotherView();
        orderToOneThatIsBlocked();
        orderOutOfPlace();
        orderAfterOneWasLost();
        heldOfAnotherView();
        heldOfAnotherViewThatToldMore();
        heldToALeaderThatIsBlocked();
        whatMostHold();
        whatMostOfAllHold();
        atTheBeginningOfAView();
        noDoForNothingMore();
        doSoMany();
        doAsManyAsItHolds();
        doToOneThatIsBlocked();
        doOfAnotherView();
        electOfALowerOne();
        electToOneThatHasATask();
        electToTheLeader();
        electWithoutMost();
        waitToOneThatAsks();
        waitToOneThatDoesNot();
        Check.end();
    }

    private static void passToTheLeader() {
        Check.terms("1 PASS: to the leader of its view, if it is not blocked, and holds fewer than 60: ADDED there");
        GroupCast x = new GroupCast(3);
        x.submit(0, 24);
        x.submit(1, 32);
        Check.dueDeliver("pass", x, 1, 2, 1);
        Check.dueDeliver("pass", x, 0, 2, 1);
        Check.dueHeld("as they came", x, 2, 32, 24);
        Check.dueLetter("order", x, 2, 0, 2, 0, 0, 1);
        Check.due("none is lost", x.count(1), 0);
    }

    private static void passOfTheSixtiethAndOneMore() {
        Check.terms("1 PASS: and holds fewer than 60. Otherwise it is LOST");
        GroupCast x = new GroupCast(2);
        for (int i = 0; i < 61; i++) {
            x.submit(0, 8 * i);
        }
        Check.dueDeliver("59", x, 0, 1, Scenes.times(59, 1));
        Check.due("it holds", x.node(1, 7), 59);
        Check.dueDeliver("the 60th", x, 0, 1, 1);
        Check.due("it holds", x.node(1, 7), 60);
        Check.dueCounts("sent, lost", x, 61 + 60, 0);
        Check.dueDeliver("one more", x, 0, 1, 1);
        Check.due("it holds", x.node(1, 7), 60);
        Check.due("the last", x.held(1, 59), 8 * 59);
        Check.dueCounts("sent, lost", x, 61 + 60, 1);
    }

    private static void passToALeaderThatIsBlocked() {
        Check.terms("1 PASS: if it is not blocked. Otherwise it is LOST");
        GroupCast x = new GroupCast(3);
        x.submit(0, 8);
        x.submit(0, 16);
        x.submit(0, 24);
        x.suspect(2, 1);
        Check.dueDeliver("to one that flushes", x, 0, 2, 1);
        Check.due("lost", x.count(1), 1);
        x.suspect(2, 0);
        Check.dueNode("no task, but blocked", x, 2, 0, 0, 0, 7, 2, 2, 3, 0, 0, 0, 1, 0);
        Check.dueDeliver("to one that is blocked", x, 0, 2, 1);
        Check.due("lost", x.count(1), 2);
        Check.due("it holds nothing", x.node(2, 7), 0);
    }

    /** Node 0 has begun view 5, led by node 2, to which it passes; but node 2 begins view 8, led by node 3. */
    private static void passToOneThatDoesNotLead() {
        Check.terms("1 PASS: to the leader of its view. Otherwise it is LOST");
        GroupCast x = new GroupCast(5);
        x.suspect(0, 4);
        x.suspect(0, 3);
        x.timeout(0);
        for (int peer = 1; peer <= 2; peer++) {
            Check.dueDeliver("elect, flush 5", x, 0, peer, 5, 7);
            Check.dueDeliver("wait, flushed 5", x, peer, 0, 6, 8);
        }
        Scenes.roundTrips(x, 0, 9, 10, 1, 2);
        Check.due("to node 2, which leads", x.submit(0, 8), 1);
        x.suspect(3, 4);
        x.suspect(3, 0);
        for (int peer = 1; peer <= 2; peer++) {
            Check.dueDeliver("flush 3 and 8", x, 3, peer, 7, 7);
            Check.dueDeliver("elect, flushed 8", x, peer, 3, 5, 8);
            Check.dueDeliver("wait", x, 3, peer, 6);
        }
        Scenes.roundTrips(x, 3, 9, 10, 1, 2);
        Check.dueDeliver("begin 8", x, 3, 2, 11);
        Check.dueNode("node 2 does not lead", x, 2, 0, 0, 8, 14, 3, 8, 0, 0, 0, 8, 0, 0);
        Check.due("lost so far", x.count(1), 0);
        Check.dueDeliver("begin 5, pass", x, 0, 2, 11, 1);
        Check.dueNode("nothing is added", x, 2, 0, 0, 8, 14, 3, 8, 0, 0, 0, 8, 0, 0);
        Check.due("lost", x.count(1), 1);
        Check.due("nor passed on", x.flying(2, 3), 0);
    }

    private static void added() {
        Check.terms("ADDED by a leader: it comes behind what it holds; 2 ORDER goes to all other members");
        GroupCast x = new GroupCast(4);
        x.submit(3, 8);
        x.submit(3, 16);
        Check.dueHeld("behind", x, 3, 8, 16);
        for (int to = 0; to < 3; to++) {
            Check.dueLetter("order", x, 3, to, 2, 0, 0, 1);
            x.deliver(3, to);
            Check.dueLetter("order", x, 3, to, 2, 0, 1, 1);
        }
        Check.due("none to itself", x.flying(3, 3), 0);
    }

    private static void addedInAViewWithFewer() {
        Check.terms("2 ORDER (its view's number, the place, the act) goes to all other members: and to nobody else");
        GroupCast x = Scenes.withoutTheHighest(5);
        Check.dueDeliver("left", x, 3, 4, 12);
        x.submit(3, 8);
        Check.dueFlying("order", x, 3, 1, 1, 1, 0, 0);
        Check.dueLetter("order", x, 3, 0, 2, 3, 0, 1);
    }

    private static void orderInItsPlace() {
        Check.terms("2 ORDER: the act comes behind them, and 3 HELD (the number, how many it holds) goes back");
        GroupCast x = new GroupCast(3);
        x.submit(2, 8);
        x.submit(2, 16);
        Check.dueDeliver("order", x, 2, 0, 2);
        Check.dueHeld("one", x, 0, 8);
        Check.dueLetter("held", x, 0, 2, 3, 0, 1, 0);
        Check.dueDeliver("order", x, 2, 0, 2);
        Check.dueHeld("two", x, 0, 8, 16);
        x.deliver(0, 2);
        Check.dueLetter("held", x, 0, 2, 3, 0, 2, 0);
        Check.due("none to another", x.flying(0, 1), 0);
        Check.due("it carries nothing out by that", x.node(0, 8), 0);
    }

    private static void orderToOneThatIsBlocked() {
        Check.terms("2 ORDER: it is not blocked: one that is");
        GroupCast x = new GroupCast(3);
        x.submit(2, 8);
        x.suspect(1, 2);
        Check.dueDeliver("to one that flushes", x, 2, 1, 2);
        Check.due("it holds none", x.node(1, 7), 0);
        Check.dueDeliver("flush", x, 1, 0, 7);
        Check.dueDeliver("to one that has promised", x, 2, 0, 2);
        Check.due("it holds none", x.node(0, 7), 0);
        Check.due("no answer", x.flying(0, 2) + x.flying(1, 2), 0);
    }

    /** Node 3 gets the first order, but not the second, for which there is no room; node 4 is down. */
    private static GroupCast oneOrderWasLost() {
        GroupCast x = new GroupCast(7);
        x.submit(6, 8);
        Check.dueDeliver("the first order", x, 6, 3, 2);
        Scenes.fillWithLetters(x, 497);
        x.submit(6, 16);
        Check.dueFlying("the second has room for three", x, 6, 2, 2, 2, 0, 1, 1);
        x.crash(4);
        Check.dueDeliver("room for more", x, 5, 4, Scenes.times(20, 27));
        return x;
    }

    private static void orderAfterOneWasLost() {
        Check.terms("2 ORDER: it holds just as many acts as the place says: it holds fewer");
        GroupCast x = oneOrderWasLost();
        x.submit(6, 24);
        Check.dueLetter("the third order", x, 6, 3, 2, 0, 2, 1);
        Check.dueDeliver("the third order", x, 6, 3, 2);
        Check.dueHeld("only the first", x, 3, 8);
        Check.dueDeliver("held of the first, and no more", x, 3, 6, 3, 0);
    }

    private static void heldOfAnotherViewThatToldMore() {
        Check.terms("3 HELD: if it is the leader of the view with that number: of another, that told more");
        GroupCast x = Scenes.greaterStampAgainstLongerRow(false);
        Scenes.roundTrips(x, 2, 9, 10, 0, 1, 4);
        Check.dueDeliver("begin", x, 2, 4, 11);
        Check.dueDeliver("begin", x, 2, 1, 11);
        Check.dueNode("node 4 leads, and holds nothing", x, 4, 0, 0, 12, 23, 4, 12, 0, 0, 0, 12, 0, 0);
        x.submit(4, 8);
        Check.dueDeliver("orders, flush 4, the new order", x, 4, 1, 2, 2, 2, 7, 2);
        Check.dueDeliver("held", x, 1, 4, 3);
        Check.dueDeliver("held of view 0: one, two, three", x, 0, 4, 3, 3, 3);
        Check.due("two of five hold it", x.node(4, 8), 0);
    }

    private static void atTheBeginningOfAView() {
        Check.terms("WHAT MOST HOLD: at the beginning of a view all as many as the leader does, and no more");
        GroupCast x = new GroupCast(3);
        x.submit(2, 8);
        Scenes.roundTrips(x, 2, 2, 3, 0);
        x.suspect(2, 1);
        Check.dueDeliver("do", x, 2, 0, 4);
        Scenes.toSync(x, 2, 0);
        Scenes.roundTrips(x, 2, 9, 10, 0);
        Check.due("all is carried out", x.node(2, 8), 1);
        int sent = x.count(0);
        x.submit(2, 16);
        Check.due("one more is not, before it is told", x.node(2, 8), 1);
        Check.dueCounts("an order alone", x, sent + 1);
        Check.dueDeliver("begin, order", x, 2, 0, 11, 2);
        Check.dueDeliver("held", x, 0, 2, 3);
        Check.due("then it is", x.node(2, 8), 2);
        Check.dueLetter("do", x, 2, 0, 4, 2, 2, 0);
    }

    private static void heldToALeaderThatIsBlocked() {
        Check.terms("3 HELD: and not blocked: one that is");
        GroupCast x = new GroupCast(3);
        x.submit(2, 8);
        Check.dueDeliver("order", x, 2, 0, 2);
        x.suspect(2, 1);
        int sent = x.count(0);
        Check.dueDeliver("held", x, 0, 2, 3);
        Check.due("nothing is carried out", x.node(2, 8), 0);
        Check.due("no do", x.count(0), sent);
    }

    private static void noDoForNothingMore() {
        Check.terms("if more are carried out by that than before, they are, and 4 DO goes: if not");
        GroupCast x = new GroupCast(3);
        x.submit(2, 8);
        Scenes.roundTrips(x, 2, 2, 3, 0);
        Check.due("one is carried out", x.node(2, 8), 1);
        Check.dueCounts("two orders, held, two dos", x, 5, 0, 1);
        Scenes.roundTrips(x, 2, 2, 3, 1);
        Check.dueCounts("held", x, 6, 0, 1);
        Check.dueFlying("the first dos alone", x, 2, 1, 1);
    }

    private static void doSoMany() {
        Check.terms("4 DO: so many are carried out");
        GroupCast x = new GroupCast(5);
        x.submit(4, 8);
        x.submit(4, 16);
        for (int peer = 0; peer < 3; peer++) {
            Check.dueDeliver("orders", x, 4, peer, 2, 2);
        }
        Check.dueDeliver("held", x, 0, 4, 3, 3);
        Check.dueDeliver("held", x, 1, 4, 3);
        Check.dueLetter("do 1", x, 4, 2, 4, 0, 1, 0);
        Check.dueDeliver("held", x, 1, 4, 3);
        Check.dueDeliver("do 1", x, 4, 2, 4);
        Check.dueStack("one", x, 2, 1);
        Check.due("of two", x.node(2, 7), 2);
        Check.dueDeliver("do 2", x, 4, 2, 4);
        Check.dueStack("two", x, 2, 2, 1);
    }

    private static void doAsManyAsItHolds() {
        Check.terms("4 DO: as many as it holds, at most");
        GroupCast x = oneOrderWasLost();
        for (int peer = 0; peer < 3; peer++) {
            Check.dueDeliver("orders", x, 6, peer, 2, 2);
            Check.dueDeliver("held", x, peer, 6, 3, 3);
        }
        Check.due("two are carried out by the leader", x.node(6, 8), 2);
        Check.dueLetter("do 1", x, 6, 3, 4, 0, 1, 0);
        x.deliver(6, 3);
        Check.dueLetter("do 2", x, 6, 3, 4, 0, 2, 0);
        x.deliver(6, 3);
        Check.dueNode("one, all that it holds", x, 3, 0, 0, 0, 127, 6, 0, 0, 1, 1, 0, 0, 0);
        Check.dueStack("one", x, 3, 1);
        Check.dueDeliver("order, dos", x, 6, 5, 2, 4, 4);
        Check.dueNode("one that flushes does nothing", x, 5, 0, 3, 0, 127, 6, x.node(5, 5), 64 + 1, 0, 0);
    }

    private static void electOfALowerOne() {
        Check.terms("5 ELECT: if the sender is lower than the node: 6 WAIT goes back; and if it has no task, it ASKS");
        GroupCast x = new GroupCast(4);
        x.suspect(0, 3);
        Check.dueDeliver("elect", x, 0, 1, 5);
        Check.dueNode("node 1 asks", x, 1, 0, 1, 0, 15, 3, 0, 0, 0, 0, 0, 0, 0);
        Check.dueLetter("it answers", x, 1, 0, 6, 0, 0, 0);
        Check.dueFlying("and asks 2 and 3, whom it does not suspect", x, 1, 1, 0, 1, 1);
        Check.due("elect", x.letter(1, 2, 0), 5);
        Check.due("elect", x.letter(1, 3, 0), 5);
    }

    private static void electToOneThatHasATask() {
        Check.terms("5 ELECT: and if it has no task: one that has");
        GroupCast x = new GroupCast(5);
        x.suspect(1, 4);
        Check.due("node 1 asks", x.node(1, 1), 1);
        x.suspect(0, 4);
        int sent = x.count(0);
        Check.dueDeliver("to one that asks", x, 0, 1, 5);
        Check.dueCounts("a wait alone", x, sent + 1);
        Scenes.roundTrips(x, 1, 5, 6, 2);
        Check.due("node 1 awaits", x.node(1, 1), 2);
        Check.dueDeliver("node 0 awaits", x, 1, 0, 6);
        x.timeout(0);
        sent = x.count(0);
        Check.dueDeliver("to one that awaits", x, 0, 1, 5);
        Check.due("it awaits still", x.node(1, 1), 2);
        Check.dueCounts("a wait alone", x, sent + 1);
        x.suspect(3, 4);
        Check.due("node 3 flushes", x.node(3, 5), 3);
        sent = x.count(0);
        Check.dueDeliver("to one that flushes", x, 0, 3, 5);
        Check.dueNode("it flushes still", x, 3, 0, 3, 0, 31, 4, 3, 16, 0, 0, 0, 1, 15);
        Check.dueCounts("a wait alone", x, sent + 1);
    }

    private static void electToTheLeader() {
        Check.terms("5 ELECT: it ASKS: with none above it, it FLUSHES at once");
        GroupCast x = new GroupCast(4);
        x.suspect(0, 3);
        Check.dueDeliver("elect", x, 0, 1, 5);
        Check.dueDeliver("elect at the leader", x, 1, 3, 5);
        Check.dueNode("the leader flushes", x, 3, 0, 3, 0, 15, 3, 3, 0, 0, 0, 0, 1, 15);
        Check.dueDeliver("wait goes first, then flush", x, 3, 1, 6, 7);
    }

    private static void electWithoutMost() {
        Check.terms("5 ELECT: it ASKS, FLUSHES, and its task is none, if they are not MOST");
        GroupCast x = new GroupCast(4);
        x.suspect(2, 0);
        x.suspect(2, 1);
        x.suspect(2, 3);
        Check.due("it has no most", x.node(2, 1), 0);
        x.suspect(0, 3);
        int sent = x.count(0);
        Check.dueDeliver("elect", x, 0, 2, 5);
        Check.dueNode("no task", x, 2, 0, 0, 0, 15, 3, 0, 11, 0, 0, 0, 0, 0);
        Check.due("it answers all the same", x.letter(2, 0, 0), 6);
        Check.dueCounts("that alone", x, sent + 1, 0, 0, 0, 0);
    }

    private static void waitToOneThatAsks() {
        Check.terms("6 WAIT: a node that ASKS, AWAITS then");
        GroupCast x = new GroupCast(4);
        x.suspect(0, 3);
        Check.dueDeliver("elect", x, 0, 1, 5);
        int sent = x.count(0);
        Check.dueDeliver("wait", x, 1, 0, 6);
        Check.dueNode("it awaits", x, 0, 0, 2, 0, 15, 3, 0, 8, 0, 0, 0, 0, 0);
        Check.due("no letter", x.count(0), sent);
    }

    private static void waitToOneThatDoesNot() {
        Check.terms("6 WAIT: a node that ASKS: one that does not");
        GroupCast x = new GroupCast(4);
        x.suspect(0, 3);
        Check.dueDeliver("elect", x, 0, 1, 5);
        Check.dueDeliver("elect", x, 0, 2, 5);
        Check.dueDeliver("wait", x, 1, 0, 6);
        Check.dueDeliver("one that awaits", x, 2, 0, 6);
        Check.due("awaits still", x.node(0, 1), 2);
        GroupCast y = new GroupCast(4);
        y.suspect(0, 3);
        Check.dueDeliver("elect", y, 0, 1, 5);
        y.timeout(0);
        Check.dueDeliver("one that flushes", y, 1, 0, 6);
        Check.dueNode("flushes still", y, 0, 0, 3, 0, 15, 3, 4, 8, 0, 0, 0, 1, 7);
        Check.dueDeliver("elect, flush", y, 0, 2, 5, 7);
        Check.dueDeliver("flush", y, 0, 1, 7);
        Check.dueDeliver("elect of 1, wait, flushed", y, 1, 0, 8);
        Check.dueDeliver("one that flushes", y, 2, 0, 6);
        Check.due("flushes still", y.node(0, 1), 3);
        Check.dueDeliver("one that flushes", y, 2, 0, 8);
        Check.due("syncs", y.node(0, 1), 4);
        GroupCast z = new GroupCast(4);
        z.suspect(0, 3);
        Check.dueDeliver("elect", z, 0, 1, 5);
        z.suspect(2, 3);
        Check.dueDeliver("flush", z, 2, 0, 7);
        Check.dueDeliver("one without a task", z, 1, 0, 6);
        Check.due("has none still", z.node(0, 1), 0);
    }

    private static void whatMostHold() {
        Check.terms("WHAT MOST HOLD: the greatest k such that MOST of all N nodes are members that hold k or more");
        GroupCast x = new GroupCast(5);
        x.submit(4, 8);
        x.submit(4, 16);
        x.submit(4, 24);
        Check.dueDeliver("node 0 holds two", x, 4, 0, 2, 2);
        Check.dueDeliver("node 1 holds three", x, 4, 1, 2, 2, 2);
        Check.dueDeliver("told by 1", x, 1, 4, 3, 3, 3);
        Check.due("two of five are not most", x.node(4, 8), 0);
        Check.dueDeliver("told by 0", x, 0, 4, 3);
        Check.dueStack("three of five hold one", x, 4, 1);
        Check.dueDeliver("told by 0", x, 0, 4, 3);
        Check.dueStack("three of five hold two", x, 4, 2, 1);
        Check.due("letters: orders, held, two rounds of do", x.count(0), 12 + 5 + 8);
        Check.dueDeliver("node 3 hears all", x, 4, 3, 2, 2, 2, 4, 4);
        Check.dueStack("and does two", x, 3, 2, 1);
        Check.dueDeliver("node 3 tells", x, 3, 4, 3, 3);
        Check.due("no more is held by most", x.count(0), 12 + 5 + 8 + 3);
        Check.dueDeliver("node 3 tells", x, 3, 4, 3);
        Check.dueStack("three of five hold three", x, 4, 3, 2, 1);
        GroupCast y = new GroupCast(4);
        y.submit(3, 8);
        Check.dueDeliver("order", y, 3, 2, 2);
        Check.dueDeliver("held", y, 2, 3, 3);
        Check.due("two of four are not most", y.node(3, 8), 0);
        GroupCast z = new GroupCast(2);
        z.submit(1, 8);
        Check.due("one of two is not most", z.node(1, 8), 0);
    }

    private static void whatMostOfAllHold() {
        Check.terms("WHAT MOST HOLD: MOST of all N nodes, that are members");
        GroupCast x = Scenes.withoutTheHighest(4);
        x.submit(2, 8);
        Check.dueDeliver("order", x, 2, 1, 2);
        Check.dueDeliver("held", x, 1, 2, 3);
        Check.due("two members of three are not most of four", x.node(2, 8), 0);
        Check.dueDeliver("order", x, 2, 0, 2);
        Check.dueDeliver("held", x, 0, 2, 3);
        Check.due("three are", x.node(2, 8), 1);
        Check.dueDeliver("do", x, 2, 0, 4);
        Check.dueStack("done by 0", x, 0, 1);
        Check.due("none to who has left", x.flying(2, 3), 1);
    }

    /** Node 1 begins a view that is led by node 2 after its first order has come. */
    private static void orderOutOfPlace() {
        Check.terms("2 ORDER: it holds just as many acts as the place says: it came before the view");
        GroupCast x = new GroupCast(5);
        x.suspect(0, 4);
        x.suspect(0, 3);
        x.timeout(0);
        Check.dueNode("node 0 flushes", x, 0, 0, 3, 0, 31, 4, 5, 24, 0, 0, 0, 1, 7);
        Check.dueDeliver("elect, flush", x, 0, 1, 5, 7);
        Check.dueDeliver("elect, flush", x, 0, 2, 5, 7);
        Check.dueDeliver("asks, flushed", x, 1, 2, 5);
        Check.dueDeliver("wait, flushed", x, 1, 0, 6, 8);
        Check.dueDeliver("wait, flushed", x, 2, 0, 6, 8);
        Check.dueDeliver("sync", x, 0, 1, 9);
        Check.dueDeliver("sync", x, 0, 2, 9);
        Check.dueDeliver("synced", x, 1, 0, 10);
        Check.due("both must have sent it", x.node(0, 1), 4);
        Check.dueDeliver("synced", x, 2, 0, 10);
        Check.due("node 2 asked anew", x.node(2, 1), 1);
        Check.dueDeliver("begin", x, 0, 2, 11);
        Check.dueNode("node 2 leads", x, 2, 0, 0, 5, 7, 2, 5, 0, 0, 0, 5, 0, 0);
        x.submit(2, 8);
        x.submit(2, 16);
        Check.due("wait, order, order", x.flying(2, 1), 3);
        Check.dueDeliver("wait, order to one that is blocked", x, 2, 1, 6, 2);
        Check.due("it holds none", x.node(1, 7), 0);
        Check.dueDeliver("begin", x, 0, 1, 11);
        Check.dueLetter("the second order", x, 2, 1, 2, 5, 1, 1);
        Check.dueDeliver("the second order", x, 2, 1, 2);
        Check.due("out of its place", x.node(1, 7), 0);
        Check.due("no answer", x.letter(1, 2, 0), -1);
    }

    private static void orderOfAnotherView() {
        Check.terms("2 ORDER: if the number is that of the view: another");
        GroupCast x = new GroupCast(3);
        x.submit(2, 8);
        x.suspect(1, 2);
        Scenes.changeView(x, 1, 1);
        Check.dueDeliver("an order of the old view", x, 2, 0, 2);
        Check.due("is not heeded", x.node(0, 7), 0);
        Check.due("no answer", x.flying(0, 2), 0);
    }

    private static void heldOfAnotherView() {
        Check.terms("3 HELD: if it is the leader of the view with that number: of another");
        GroupCast x = new GroupCast(4);
        x.submit(3, 8);
        Check.dueDeliver("order", x, 3, 1, 2);
        Check.dueDeliver("order", x, 3, 2, 2);
        Check.dueDeliver("held", x, 1, 3, 3);
        x.suspect(3, 0);
        Check.dueDeliver("held, to a leader that is blocked", x, 2, 3, 3);
        Check.due("is not heeded", x.node(3, 8), 0);
        Check.dueDeliver("flush", x, 3, 1, 7);
        Check.dueDeliver("flush", x, 3, 2, 7);
        Check.dueDeliver("order", x, 3, 0, 2);
        Check.dueDeliver("flushed", x, 1, 3, 8);
        Check.dueDeliver("flushed", x, 2, 3, 8);
        Check.dueDeliver("sync", x, 3, 1, 9);
        Check.dueDeliver("sync", x, 3, 2, 9);
        Check.dueDeliver("synced", x, 1, 3, 10);
        Check.dueDeliver("synced", x, 2, 3, 10);
        Check.due("carried out as it begins", x.node(3, 8), 1);
        Check.dueDeliver("held of the old view", x, 0, 3, 3);
        Check.due("no do", x.letter(3, 0, 0), 12);
    }

    private static void doToOneThatIsBlocked() {
        Check.terms("4 DO: and it is not blocked: one that is");
        GroupCast x = new GroupCast(5);
        x.suspect(0, 4);
        x.timeout(0);
        x.submit(4, 8);
        x.submit(4, 16);
        Check.dueDeliver("order", x, 4, 3, 2, 2);
        Check.dueDeliver("order", x, 4, 2, 2);
        Check.dueDeliver("held", x, 3, 4, 3, 3);
        Check.dueDeliver("held", x, 2, 4, 3);
        Check.dueDeliver("order", x, 4, 2, 2);
        Check.dueDeliver("held", x, 2, 4, 3);
        Check.due("two done", x.node(4, 8), 2);
        Check.dueDeliver("do 1", x, 4, 3, 4);
        Check.due("one done", x.node(3, 8), 1);
        Check.dueDeliver("do 2", x, 4, 3, 4);
        Check.dueStack("two done", x, 3, 2, 1);
        Check.dueDeliver("elect, flush", x, 0, 1, 5, 7);
        Check.dueDeliver("orders and dos to one that is blocked", x, 4, 1, 2, 2, 4, 4);
        Check.dueNode("it does nothing", x, 1, 0, 0, 0, 31, 4, 5, 0, 0, 0, 0, 1, 0);
    }

    private static void doOfAnotherView() {
        Check.terms("4 DO: if the number is that of the view: another");
        GroupCast x = new GroupCast(3);
        x.submit(2, 8);
        Check.dueDeliver("order", x, 2, 0, 2);
        Check.dueDeliver("held", x, 0, 2, 3);
        x.suspect(1, 2);
        Check.dueDeliver("flush", x, 1, 0, 7);
        Check.dueDeliver("do, to one that is blocked", x, 2, 0, 4);
        Check.due("is not heeded", x.node(0, 8), 0);
        Check.dueDeliver("flushed", x, 0, 1, 8);
        Check.dueDeliver("sync", x, 1, 0, 9);
        Check.due("a sync carries nothing out", x.node(0, 8), 0);
        Check.dueDeliver("synced", x, 0, 1, 10);
        Check.dueStack("a begin does", x, 1, 1);
        Check.dueDeliver("order, do of the old view", x, 2, 1, 2, 4);
        Check.dueStack("once", x, 1, 1);
    }

    private static void passToOneThatHasNotBegun() {
        Check.terms("1 PASS: if it is not blocked. Otherwise it is LOST: it was to lead, and has not begun");
        GroupCast x = new GroupCast(3);
        x.suspect(0, 2);
        x.timeout(0);
        Check.dueDeliver("elect, flush", x, 0, 1, 5, 7);
        Check.dueDeliver("wait, flushed", x, 1, 0, 6, 8);
        Check.dueDeliver("sync", x, 0, 1, 9);
        Check.dueDeliver("synced", x, 1, 0, 10);
        Check.due("node 0 passes to node 1", x.submit(0, 8), 1);
        Check.due("begin, pass", x.flying(0, 1), 2);
        x.suspect(1, 0);
        x.timeout(1);
        Check.due("node 1 flushes with node 2", x.node(1, 11), 6);
        Check.dueDeliver("begin comes too late; the pass is lost", x, 0, 1, 11, 1);
        Check.due("lost", x.count(1), 1);
        Check.due("its view", x.node(1, 2), 0);
    }
}
