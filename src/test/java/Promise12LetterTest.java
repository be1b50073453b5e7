/** Promise 12: letter, of every kind. */
public final class Promise12LetterTest {
    public static void main(String[] args) {
        theOldest();
        itsKind();
        itsNumber();
        noNumberInALaterView();
        placeOrHowMany();
        membersAsBits();
        theStamp();
        elseZero();
        howManyActs();
        noActs();
        sixtyActs();
        everyKindInOneRun();
        noSuchLetter();
        noSuchNode();
        noSuchThing();
        lookingChangesNothing();
        Check.end();
    }

    /** What letter(.., what) is for Scenes.withLetter(kind). */
    private static void dueOfKinds(int what, int[] kinds, int... wanted) {
        for (int i = 0; i < kinds.length; i++) {
            GroupCast x = Scenes.withLetter(kinds[i]);
            Check.due("of kind " + kinds[i], x.letter(Scenes.LETTER_FROM[kinds[i]], Scenes.LETTER_TO[kinds[i]], what),
                wanted[i]);
        }
    }

    private static int[] kinds(int... kinds) {
        return kinds;
    }

    private static void theOldest() {
        Check.promise(12, "Of the oldest letter of a channel");
        GroupCast x = new GroupCast(3);
        x.submit(2, 8);
        x.submit(2, 16);
        x.suspect(2, 1);
        Check.dueLetter("the first order", x, 2, 0, 2, 0, 0, 1);
        x.deliver(2, 0);
        Check.dueLetter("the second", x, 2, 0, 2, 0, 1, 1);
        x.deliver(2, 0);
        Check.dueLetter("the flush", x, 2, 0, 7, 2, 5, 0);
        Check.dueLetter("another channel", x, 0, 2, 3, 0, 1, 0);
    }

    private static void itsKind() {
        Check.promise(12, "0 its kind");
        dueOfKinds(0, kinds(1, 2, 3, 4, 5, 6, 7, 8, 9, 10, 11, 12), 1, 2, 3, 4, 5, 6, 7, 8, 9, 10, 11, 12);
    }

    private static void itsNumber() {
        Check.promise(12, "1 its number (of 1, 5, 6, 12: 0)");
        dueOfKinds(1, kinds(2, 3, 4, 7, 8, 9, 10, 11), 0, 0, 0, 1, 1, 1, 1, 1);
        dueOfKinds(1, kinds(1, 5, 6, 12), 0, 0, 0, 0);
    }

    private static void noNumberInALaterView() {
        Check.promise(12, "1 its number (of 1, 5, 6, 12: 0): in a view that is not number 0");
        GroupCast x = Scenes.withoutTheHighest(5);
        Check.dueLetter("left", x, 3, 4, 12, 0, 0, 0);
        x.submit(0, 8);
        Check.dueLetter("pass", x, 0, 3, 1, 0, 0, 1);
        x.submit(3, 8);
        Check.dueLetter("order", x, 3, 0, 2, 3, 0, 1);
        x.deliver(3, 0);
        x.deliver(0, 3);
        Check.dueLetter("held", x, 0, 3, 3, 3, 1, 0);
        x.suspect(1, 3);
        Check.dueLetter("elect", x, 1, 2, 5, 0, 0, 0);
        x.deliver(1, 2);
        Check.dueLetter("wait", x, 2, 1, 6, 0, 0, 0);
    }

    private static void placeOrHowMany() {
        Check.promise(12, "2 the place or how many (of 2, 3, 4)");
        dueOfKinds(2, kinds(2, 3, 4), 0, 1, 1);
        GroupCast x = Scenes.fullOfActs(2);
        for (int place = 0; place < 60; place++) {
            Check.due("order", x.letter(1, 0, 2), place);
            x.deliver(1, 0);
        }
        for (int many = 1; many <= 60; many++) {
            Check.due("held", x.letter(0, 1, 2), many);
            x.deliver(0, 1);
        }
        for (int many = 1; many <= 60; many++) {
            Check.due("do", x.letter(1, 0, 2), many);
            x.deliver(1, 0);
        }
    }

    private static void membersAsBits() {
        Check.promise(12, "2 members as bits (7, 11)");
        dueOfKinds(2, kinds(7, 11), 3, 3);
        GroupCast x = new GroupCast(7);
        x.suspect(6, 3);
        Check.dueLetter("flush", x, 6, 0, 7, 6, 119, 0);
        x.suspect(6, 0);
        x.deliver(6, 5);
        Check.dueLetter("flush", x, 6, 5, 7, 13, 118, 0);
    }

    private static void theStamp() {
        Check.promise(12, "2 the stamp (8)");
        dueOfKinds(2, kinds(8), 0);
        GroupCast x = Scenes.withoutTheHighest(5);
        x.submit(3, 16);
        Check.dueDeliver("order", x, 3, 1, 2);
        x.suspect(2, 3);
        Check.dueDeliver("flush", x, 2, 1, 7);
        Check.dueLetter("flushed by stamp 3", x, 1, 2, 8, 7, 3, 1);
    }

    private static void elseZero() {
        Check.promise(12, "2 else 0");
        dueOfKinds(2, kinds(1, 5, 6, 9, 10, 12), 0, 0, 0, 0, 0, 0);
        GroupCast x = Scenes.withoutTheHighest(5);
        x.suspect(2, 3);
        Scenes.toSync(x, 2, 0, 1);
        Check.dueLetter("sync", x, 2, 0, 9, 7, 0, 0);
        x.deliver(2, 0);
        Check.dueLetter("synced", x, 0, 2, 10, 7, 0, 0);
    }

    private static void howManyActs() {
        Check.promise(12, "3 how many acts it has (1 of 1, 2)");
        dueOfKinds(3, kinds(1, 2), 1, 1);
        GroupCast x = new GroupCast(4);
        x.submit(3, 8);
        x.submit(3, 16);
        Check.dueDeliver("two orders", x, 3, 0, 2, 2);
        Check.dueDeliver("one order", x, 3, 1, 2);
        x.suspect(2, 3);
        Check.dueDeliver("flush", x, 2, 0, 7);
        Check.dueDeliver("flush", x, 2, 1, 7);
        Check.dueLetter("flushed, two", x, 0, 2, 8, 2, 0, 2);
        Check.dueLetter("flushed, one", x, 1, 2, 8, 2, 0, 1);
        x.deliver(0, 2);
        x.deliver(1, 2);
        Check.dueLetter("sync, two", x, 2, 1, 9, 2, 0, 2);
    }

    private static void noActs() {
        Check.promise(12, "3 how many acts it has: none");
        dueOfKinds(3, kinds(3, 4, 5, 6, 7, 8, 9, 10, 11, 12), 0, 0, 0, 0, 0, 0, 0, 0, 0, 0);
    }

    private static void sixtyActs() {
        Check.promise(12, "3 how many acts it has: 60");
        GroupCast x = Scenes.fullOfActs(3);
        x.suspect(2, 1);
        Check.dueDeliver("orders", x, 2, 0, Scenes.times(60, 2));
        Check.dueDeliver("flush", x, 2, 0, 7);
        Check.dueDeliver("held, not heeded", x, 0, 2, Scenes.times(60, 3));
        Check.dueLetter("flushed", x, 0, 2, 8, 2, 0, 60);
        x.deliver(0, 2);
        Check.dueLetter("sync", x, 2, 0, 9, 2, 0, 60);
    }

    private static void everyKindInOneRun() {
        Check.promise(12, "Of the oldest letter of a channel: what = 0 .. 3, and no more");
        GroupCast x = new GroupCast(4);
        x.submit(0, 24);
        Check.dueLetter("pass", x, 0, 3, 1, 0, 0, 1, -1);
        x.deliver(0, 3);
        x.submit(3, 5);
        Check.dueLetter("order", x, 3, 0, 2, 0, 0, 1, -1);
        x.deliver(3, 0);
        Check.dueLetter("the next order", x, 3, 0, 2, 0, 1, 1);
        x.deliver(3, 0);
        Check.dueLetter("held", x, 0, 3, 3, 0, 1, 0, -1);
        x.deliver(0, 3);
        Check.dueLetter("held", x, 0, 3, 3, 0, 2, 0);
        Check.dueDeliver("orders", x, 3, 1, 2, 2);
        Check.dueDeliver("two hold the first", x, 1, 3, 3);
        Check.dueLetter("do", x, 3, 0, 4, 0, 1, 0, -1);
        x.suspect(0, 3);
        Check.dueDeliver("held, before", x, 0, 3, 3);
        Check.dueLetter("elect", x, 0, 1, 5, 0, 0, 0, -1);
        x.suspect(2, 3);
        Check.dueDeliver("elect", x, 0, 2, 5);
        Check.dueDeliver("flush, before", x, 2, 0, 7);
        Check.dueLetter("wait", x, 2, 0, 6, 0, 0, 0, -1);
        Check.dueDeliver("wait", x, 2, 0, 6);
        Check.dueLetter("flush", x, 2, 1, 7, 2, 7, 0, -1);
        Check.dueLetter("flushed", x, 0, 2, 8, 2, 0, 2, -1);
        Check.dueDeliver("flush", x, 2, 1, 7);
        Check.dueDeliver("flushed", x, 1, 2, 8);
        Check.dueDeliver("flushed", x, 0, 2, 8);
        Check.dueLetter("sync", x, 2, 0, 9, 2, 0, 2, -1);
        Check.dueDeliver("sync", x, 2, 0, 9);
        Check.dueDeliver("sync", x, 2, 1, 9);
        Check.dueLetter("synced", x, 0, 2, 10, 2, 0, 0, -1);
        Check.dueDeliver("synced", x, 0, 2, 10);
        Check.dueDeliver("synced", x, 1, 2, 10);
        Check.dueLetter("begin", x, 2, 1, 11, 2, 7, 0, -1);
        Check.dueLetter("left", x, 2, 3, 12, 0, 0, 0, -1);
        Check.dueDeliver("begin", x, 2, 0, 11);
        Check.dueDeliver("begin", x, 2, 1, 11);
        inTheNewView(x);
    }

    private static void inTheNewView(GroupCast x) {
        x.submit(2, 16);
        Check.dueLetter("order", x, 2, 0, 2, 2, 2, 1);
        Check.dueDeliver("order", x, 2, 0, 2);
        Check.dueLetter("held", x, 0, 2, 3, 2, 3, 0);
        Check.dueDeliver("held", x, 0, 2, 3);
        Check.due("two of four are not most", x.flying(2, 0), 0);
        Check.dueDeliver("order", x, 2, 1, 2);
        Check.dueDeliver("held", x, 1, 2, 3);
        Check.dueLetter("do", x, 2, 0, 4, 2, 3, 0);
    }

    private static void noSuchLetter() {
        Check.promise(12, "NONE: there is none such: no letter");
        GroupCast x = new GroupCast(4);
        for (int what = 0; what < 4; what++) {
            Check.due("at first", x.letter(0, 3, what), -1);
        }
        x.submit(0, 24);
        for (int what = 0; what < 4; what++) {
            Check.due("the other way", x.letter(3, 0, what), -1);
            Check.due("to itself", x.letter(0, 0, what), -1);
            Check.due("another channel", x.letter(0, 2, what), -1);
        }
        Check.due("it is there", x.letter(0, 3, 0), 1);
        x.deliver(0, 3);
        Check.due("it is there no more", x.letter(0, 3, 0), -1);
    }

    private static void noSuchNode() {
        Check.promise(12, "NONE: there is none such: no such node");
        for (int n = 2; n <= 7; n++) {
            GroupCast x = new GroupCast(n);
            x.submit(0, 24);
            for (int node : new int[] {-1, n, 8, Integer.MIN_VALUE, Integer.MAX_VALUE}) {
                Check.due("letter(" + node + ", .., 0) of " + n, x.letter(node, n - 1, 0), -1);
                Check.due("letter(0, " + node + ", 0) of " + n, x.letter(0, node, 0), -1);
                Check.due("letter(" + node + ", " + node + ", 0) of " + n, x.letter(node, node, 0), -1);
            }
        }
    }

    private static void noSuchThing() {
        Check.promise(12, "NONE: there is none such: no such thing of it");
        for (int kind = 1; kind <= 12; kind++) {
            GroupCast x = Scenes.withLetter(kind);
            for (int what : new int[] {-1, 4, 5, Integer.MIN_VALUE, Integer.MAX_VALUE}) {
                Check.due("of kind " + kind, x.letter(Scenes.LETTER_FROM[kind], Scenes.LETTER_TO[kind], what), -1);
            }
        }
    }

    private static void lookingChangesNothing() {
        Check.promise(12, "Of the oldest letter of a channel: to look takes nothing away");
        GroupCast x = Scenes.withLetter(2);
        String before = Check.seen(x, 3);
        for (int what = -1; what <= 4; what++) {
            x.letter(2, 0, what);
        }
        Check.dueUnchanged("after looking", x, 3, before);
    }
}
