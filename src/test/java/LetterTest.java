/** Promise 12: letter, of every kind. */
public final class LetterTest {
    public static void main(String[] args) {
        wrongArguments();
        GroupCast x = new GroupCast(4);
        x.submit(0, 24);
        Check.dueLetter("pass", x, 0, 3, 1, 0, 0, 1, -1);
        x.deliver(0, 3);
        x.submit(3, 5);
        Check.dueLetter("order", x, 3, 0, 2, 0, 0, 1, -1);
        x.deliver(3, 0);
        Check.dueLetter("the next order", x, 3, 0, 2, 0, 1, 1);
        x.deliver(3, 0);
        Check.dueLetter("held", x, 0, 3, 3, 0, 1, 0, -1);
        x.deliver(0, 3);
        Check.dueLetter("held", x, 0, 3, 3, 0, 2, 0);
        Check.dueDeliver("orders", x, 3, 1, 2, 2);
        Check.dueDeliver("two hold the first", x, 1, 3, 3);
        Check.dueLetter("do", x, 3, 0, 4, 0, 1, 0, -1);
        x.suspect(0, 3);
        Check.dueDeliver("held, before", x, 0, 3, 3);
        Check.dueLetter("elect", x, 0, 1, 5, 0, 0, 0, -1);
        x.suspect(2, 3);
        Check.dueDeliver("elect", x, 0, 2, 5);
        Check.dueDeliver("flush, before", x, 2, 0, 7);
        Check.dueLetter("wait", x, 2, 0, 6, 0, 0, 0, -1);
        Check.dueDeliver("wait", x, 2, 0, 6);
        Check.dueLetter("flush", x, 2, 1, 7, 2, 7, 0, -1);
        Check.dueLetter("flushed", x, 0, 2, 8, 2, 0, 2, -1);
        Check.dueDeliver("flush", x, 2, 1, 7);
        Check.dueDeliver("flushed", x, 1, 2, 8);
        Check.dueDeliver("flushed", x, 0, 2, 8);
        Check.dueLetter("sync", x, 2, 0, 9, 2, 0, 2, -1);
        Check.dueDeliver("sync", x, 2, 0, 9);
        Check.dueDeliver("sync", x, 2, 1, 9);
        Check.dueLetter("synced", x, 0, 2, 10, 2, 0, 0, -1);
        Check.dueDeliver("synced", x, 0, 2, 10);
        Check.dueDeliver("synced", x, 1, 2, 10);
        Check.dueLetter("begin", x, 2, 1, 11, 2, 7, 0, -1);
        Check.dueLetter("left", x, 2, 3, 12, 0, 0, 0, -1);
        Check.dueDeliver("begin", x, 2, 0, 11);
        Check.dueDeliver("begin", x, 2, 1, 11);
        inTheNewView(x);
        byAStamp();
        Check.end();
    }

    private static void inTheNewView(GroupCast x) {
        x.submit(2, 16);
        Check.dueLetter("order", x, 2, 0, 2, 2, 2, 1);
        Check.dueDeliver("order", x, 2, 0, 2);
        Check.dueLetter("held", x, 0, 2, 3, 2, 3, 0);
        Check.dueDeliver("held", x, 0, 2, 3);
        Check.due("two of four are not most", x.flying(2, 0), 0);
        Check.dueDeliver("order", x, 2, 1, 2);
        Check.dueDeliver("held", x, 1, 2, 3);
        Check.dueLetter("do", x, 2, 0, 4, 2, 3, 0);
    }

    private static void byAStamp() {
        GroupCast x = Scenes.withoutTheHighest(5);
        x.submit(3, 16);
        Check.dueDeliver("order", x, 3, 1, 2);
        x.suspect(2, 3);
        Check.dueDeliver("flush", x, 2, 1, 7);
        Check.dueLetter("flushed by stamp 3", x, 1, 2, 8, 7, 3, 1);
    }

    private static void wrongArguments() {
        GroupCast x = new GroupCast(4);
        x.submit(0, 24);
        for (int node : new int[] {-1, 4, 7, Integer.MIN_VALUE, Integer.MAX_VALUE}) {
            Check.due("letter(" + node + ", 3, 0)", x.letter(node, 3, 0), -1);
            Check.due("letter(0, " + node + ", 0)", x.letter(0, node, 0), -1);
        }
        for (int what : new int[] {-1, 4, 5, Integer.MIN_VALUE, Integer.MAX_VALUE}) {
            Check.due("letter(0, 3, " + what + ")", x.letter(0, 3, what), -1);
        }
        for (int what = 0; what < 4; what++) {
            Check.due("of an empty channel", x.letter(3, 0, what), -1);
            Check.due("to itself", x.letter(0, 0, what), -1);
        }
        Check.due("looking takes nothing away", x.flying(0, 3), 1);
        x.deliver(0, 3);
        Check.due("it is there no more", x.letter(0, 3, 0), -1);
    }
}
