/** Terms: how letters go, how many fly, which are lost, and to whom they go first. */
public final class TermsLettersTest {
    public static void main(String[] args) {
        inTheirOrder();
        inTheirOrderThoughSomeAreLost();
        fiveHundredFly();
        oneMoreIsLost();
        overAllChannels();
        whatHasComeMakesRoom();
        anAnswerHasTheRoomOfWhatCame();
        lostForOneThatIsNotLive();
        ordersByTheirNumbers();
        dosByTheirNumbers();
        electsByTheirNumbers();
        flushesByTheirNumbers();
        syncsByTheirNumbers();
        beginsByTheirNumbers();
        leftByTheirNumbers();
        Check.end();
    }

    private static void inTheirOrder() {
        Check.terms("Letters between two nodes come in the order in which they were sent");
        GroupCast x = new GroupCast(3);
        x.submit(2, 8);
        x.submit(2, 16);
        Check.dueDeliver("orders", x, 2, 0, 2, 2);
        Check.dueDeliver("held", x, 0, 2, 3);
        x.suspect(2, 1);
        Check.dueLetter("do 1 before the flush", x, 2, 0, 4, 0, 1, 0);
        Check.dueDeliver("do, flush", x, 2, 0, 4, 7);
        Check.dueDeliver("held, flushed", x, 0, 2, 3, 8);
        Check.dueDeliver("sync", x, 2, 0, 9);
        Check.dueDeliver("synced", x, 0, 2, 10);
        x.submit(2, 24);
        Check.dueDeliver("begin, order", x, 2, 0, 11, 2);
        Check.dueDeliver("to the other: orders, do, left", x, 2, 1, 2, 2, 4, 12, 0);
    }

    private static void inTheirOrderThoughSomeAreLost() {
        Check.terms("Letters come in the order in which they were sent: one that is lost leaves no gap");
        GroupCast x = Scenes.fullOfLetters(500);
        x.submit(0, 8);
        x.crash(4);
        Check.dueDeliver("room for one", x, 5, 4, 27);
        x.submit(0, 16);
        x.submit(0, 24);
        Check.dueDeliver("room for one more", x, 5, 4, 27);
        x.submit(0, 32);
        Check.due("two of these, and two flushes, are lost", x.count(1), 4);
        Check.dueDeliver("two of four", x, 0, 6, 1, 1, 0);
        Check.dueHeld("the second and the fourth", x, 6, 16, 32);
    }

    private static void fiveHundredFly() {
        Check.terms("500 fly at most");
        GroupCast x = Scenes.fullOfLetters(499);
        Check.due("none is lost", x.count(1), 0);
        x.submit(0, 8);
        Check.due("the 500th flies", x.flying(0, 6), 1);
        Check.due("500 fly", x.flying(-1, 0), 500);
        Check.due("none is lost", x.count(1), 0);
        GroupCast y = new GroupCast(2);
        for (int i = 0; i < 500; i++) {
            y.submit(0, 8);
        }
        Check.due("500 fly on one channel", y.flying(0, 1), 500);
        Check.due("none is lost", y.count(1), 0);
    }

    private static void oneMoreIsLost() {
        Check.terms("one more is LOST as it is sent");
        GroupCast x = Scenes.fullOfLetters(500);
        Check.due("one more", x.submit(0, 8), 1);
        Check.due("does not fly", x.flying(0, 6), 0);
        Check.due("500 fly", x.flying(-1, 0), 500);
        Check.dueCounts("sent, lost", x, 501, 1);
        Check.due("and again", x.submit(0, 8), 1);
        Check.dueCounts("sent, lost", x, 502, 2);
        Check.dueDeliver("there is none", x, 0, 6, 0);
    }

    private static void overAllChannels() {
        Check.terms("500 fly at most: on all channels together");
        GroupCast x = Scenes.fullOfLetters(500);
        for (int node = 0; node < 5; node++) {
            Check.due("a channel that is empty", x.submit(node, 8), 1);
            Check.due("stays so", x.flying(node, 6), 0);
        }
        Check.due("lost", x.count(1), 5);
    }

    private static void whatHasComeMakesRoom() {
        Check.terms("500 fly at most: what has come flies no more");
        GroupCast x = Scenes.fullOfLetters(500);
        x.crash(0);
        Check.dueDeliver("lost as it comes", x, 5, 0, 27);
        Check.due("499 fly", x.flying(-1, 0), 499);
        x.submit(1, 8);
        Check.due("there was room", x.flying(1, 6), 1);
        x.submit(1, 8);
        Check.due("for one", x.flying(1, 6), 1);
        Check.dueCounts("sent, lost", x, 502, 2);
    }

    private static void anAnswerHasTheRoomOfWhatCame() {
        Check.terms("500 fly at most: the room of a letter that comes is its answer's");
        GroupCast x = Scenes.fullOfLetters(500);
        Check.dueDeliver("flush", x, 5, 1, 7);
        Check.due("flushed flies", x.letter(1, 5, 0), 8);
        Check.dueCounts("sent, lost", x, 501, 0);
    }

    private static void lostForOneThatIsNotLive() {
        Check.terms("One that comes to a node that is not live is LOST");
        GroupCast x = new GroupCast(3);
        x.submit(2, 8);
        x.crash(0);
        Check.due("not as it is sent", x.count(1), 0);
        Check.due("it flies", x.flying(2, 0), 1);
        Check.dueDeliver("but as it comes", x, 2, 0, 22);
        Check.dueCounts("sent, lost", x, 2, 1);
        x.submit(2, 16);
        Check.due("others are sent to it still", x.flying(2, 0), 1);
        Check.dueDeliver("and lost", x, 2, 0, 22);
        Check.dueCounts("sent, lost", x, 4, 2);
        Check.due("it holds nothing", x.node(0, 7), 0);
    }

    private static void ordersByTheirNumbers() {
        Check.terms("2 ORDER goes to all other members, by their numbers");
        for (int room = 0; room <= 6; room++) {
            GroupCast x = Scenes.fullOfLetters(500 - room);
            x.submit(6, 8);
            for (int to = 0; to < 6; to++) {
                Check.due("room for " + room + ", to " + to, x.flying(6, to), to < room ? 1 : 0);
            }
            Check.due("lost", x.count(1), 6 - room);
        }
    }

    private static void dosByTheirNumbers() {
        Check.terms("4 DO goes to all other members, by their numbers");
        GroupCast x = new GroupCast(7);
        x.submit(6, 8);
        Scenes.roundTrips(x, 6, 2, 3, 0, 1);
        Check.dueDeliver("order", x, 6, 2, 2);
        Scenes.fillWithLetters(x, 499);
        Check.dueDeliver("held", x, 2, 6, 3);
        Check.due("it is carried out", x.node(6, 8), 1);
        Check.dueFlying("room for two, beside orders", x, 6, 1, 1, 0, 1, 1, 1);
        Check.due("do", x.letter(6, 1, 0), 4);
        Check.due("lost", x.count(1), 4);
    }

    private static void electsByTheirNumbers() {
        Check.terms("5 ELECT goes to all members above it, by their numbers");
        GroupCast x = Scenes.fullOfLetters(497);
        x.suspect(0, 6);
        Check.due("it asks", x.node(0, 1), 1);
        Check.dueFlying("room for three", x, 0, 0, 1, 1, 1, 0, 0, 0);
        Check.due("lost", x.count(1), 2);
    }

    private static void flushesByTheirNumbers() {
        Check.terms("7 FLUSH goes to the others of these, by their numbers");
        GroupCast x = Scenes.fullOfLetters(498);
        x.suspect(6, 0);
        Check.dueNode("it flushes all the same", x, 6, 0, 3, 0, 127, 6, 6, 1, 0, 0, 0, 1, 126);
        Check.dueFlying("room for two", x, 6, 0, 1, 1, 0, 0, 0);
        Check.due("lost", x.count(1), 3);
    }

    private static void syncsByTheirNumbers() {
        Check.terms("9 SYNC goes to the others of the members to be, by their numbers");
        GroupCast x = new GroupCast(7);
        x.suspect(6, 5);
        Scenes.roundTrips(x, 6, 7, 8, 0, 1, 2, 3);
        Check.dueDeliver("flush", x, 6, 4, 7);
        Scenes.fillWithLetters(x, 499);
        Check.dueDeliver("the last flushed", x, 4, 6, 8);
        Check.due("it syncs", x.node(6, 1), 4);
        Check.dueFlying("room for two", x, 6, 1, 1, 0, 0, 0, 0);
        Check.due("lost", x.count(1), 3);
    }

    /** Node 6 syncs with 0, 1, 2 and 4, of which only the last has not synced; so many letters fly. */
    private static GroupCast almostBegun(int flying) {
        GroupCast x = new GroupCast(7);
        x.suspect(6, 5);
        x.suspect(6, 3);
        Scenes.roundTrips(x, 6, 7, 8, 0, 1, 2, 4);
        Scenes.toSync(x, 6, 0, 1, 2, 4);
        Check.dueDeliver("flush 6, not to be flushed any more", x, 6, 3, 7);
        Check.dueDeliver("flushed 6", x, 3, 6, 8);
        Scenes.roundTrips(x, 6, 9, 10, 0, 1, 2);
        Check.dueDeliver("sync", x, 6, 4, 9);
        Scenes.fillWithLetters(x, flying);
        return x;
    }

    private static void beginsByTheirNumbers() {
        Check.terms("11 BEGIN goes to them, by their numbers, and before any 12 LEFT");
        GroupCast x = almostBegun(499);
        Check.dueDeliver("synced", x, 4, 6, 10);
        Check.due("it begins", x.node(6, 2), 13);
        Check.dueFlying("room for two", x, 6, 1, 1, 0, 0, 0, 0);
        Check.due("begin", x.letter(6, 0, 0), 11);
        Check.due("lost", x.count(1), 4);
        GroupCast y = almostBegun(498);
        Check.dueDeliver("synced", y, 4, 6, 10);
        Check.dueFlying("room for three", y, 6, 1, 1, 1, 0, 0, 0);
        GroupCast z = almostBegun(497);
        Check.dueDeliver("synced", z, 4, 6, 10);
        Check.dueFlying("room for four", z, 6, 1, 1, 1, 0, 1, 0);
        Check.due("lost", z.count(1), 2);
    }

    private static void leftByTheirNumbers() {
        Check.terms("12 LEFT to all members of its view that are none of the new one, by their numbers");
        GroupCast x = almostBegun(496);
        Check.dueDeliver("synced", x, 4, 6, 10);
        Check.dueFlying("room for five", x, 6, 1, 1, 1, 1, 1, 0);
        Check.due("left", x.letter(6, 3, 0), 12);
        Check.due("lost", x.count(1), 1);
        GroupCast y = almostBegun(495);
        Check.dueDeliver("synced", y, 4, 6, 10);
        Check.dueFlying("room for all", y, 6, 1, 1, 1, 1, 1, 1);
        Check.due("left", y.letter(6, 5, 0), 12);
        Check.due("lost", y.count(1), 0);
    }
}
