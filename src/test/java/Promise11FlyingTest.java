/** Promise 11: flying. */
public final class Promise11FlyingTest {
    public static void main(String[] args) {
        onAChannel();
        onAnEmptyChannel();
        onAll();
        onAllWhateverTo();
        whatHasComeOrIsLost();
        asManyAsMayFly();
        noSender();
        nobodyToFlyTo();
        Check.end();
    }

    private static GroupCast sevenLetters() {
        GroupCast x = new GroupCast(4);
        x.submit(3, 8);
        x.submit(3, 8);
        x.submit(1, 8);
        return x;
    }

    private static void onAChannel() {
        Check.promise(11, "How many letters fly on a channel");
        GroupCast x = sevenLetters();
        Check.dueFlying("from 3", x, 3, 2, 2, 2);
        Check.dueFlying("from 1", x, 1, 0, 0, 0, 1);
        x.deliver(3, 0);
        Check.dueFlying("one came", x, 3, 1, 2, 2);
        Check.dueFlying("its answer flies", x, 0, 0, 0, 0, 1);
    }

    private static void onAnEmptyChannel() {
        Check.promise(11, "How many letters fly on a channel: none");
        GroupCast x = sevenLetters();
        Check.dueFlying("from 0", x, 0, 0, 0, 0, 0);
        Check.dueFlying("from 2", x, 2, 0, 0, 0, 0);
        Check.due("to itself", x.flying(3, 3), 0);
        Check.due("to itself", x.flying(1, 1), 0);
    }

    private static void onAll() {
        Check.promise(11, "from NONE: on all");
        Check.due("at first", new GroupCast(7).flying(-1, 0), 0);
        GroupCast x = sevenLetters();
        Check.due("on all", x.flying(GroupCast.NONE, 0), 7);
        int sum = 0;
        for (int from = 0; from < 4; from++) {
            for (int to = 0; to < 4; to++) {
                sum += x.flying(from, to);
            }
        }
        Check.due("as many as on each", sum, 7);
    }

    private static void onAllWhateverTo() {
        Check.promise(11, "from NONE: on all: whatever 'to' is");
        GroupCast x = sevenLetters();
        for (int to = 0; to < 4; to++) {
            Check.due("flying(-1, " + to + ")", x.flying(-1, to), 7);
        }
        Check.due("flying(-1, -1)", x.flying(-1, -1), 7);
    }

    private static void whatHasComeOrIsLost() {
        Check.promise(11, "How many letters fly: not what has come, or is lost");
        GroupCast x = sevenLetters();
        x.crash(2);
        Check.dueDeliver("lost", x, 3, 2, 22);
        Check.due("on all", x.flying(-1, 0), 6);
        Check.due("on the channel", x.flying(3, 2), 1);
        x.suspect(3, 0);
        Check.due("two flushes more", x.flying(-1, 0), 8);
        Check.dueDeliver("a pass that is lost", x, 1, 3, 1);
        Check.due("on all", x.flying(-1, 0), 7);
    }

    private static void asManyAsMayFly() {
        Check.promise(11, "How many letters fly: 500");
        GroupCast x = Scenes.fullOfLetters(500);
        Check.due("on all", x.flying(-1, 0), 500);
        Check.dueFlying("from 5", x, 5, 100, 100, 100, 100, 100, 0, 0);
        x.submit(0, 8);
        Check.due("one more", x.flying(-1, 0), 500);
        GroupCast y = new GroupCast(2);
        for (int i = 0; i < 501; i++) {
            y.submit(0, 8);
        }
        Check.due("on one channel", y.flying(0, 1), 500);
        Check.due("on all", y.flying(-1, 0), 500);
    }

    private static void noSender() {
        Check.promise(11, "NONE: there is no such node: to fly from");
        for (int n = 2; n <= 7; n++) {
            GroupCast x = new GroupCast(n);
            x.submit(0, 8);
            for (int node : new int[] {-2, n, 8, Integer.MIN_VALUE, Integer.MAX_VALUE}) {
                Check.due("flying(" + node + ", 0) of " + n, x.flying(node, 0), -1);
                Check.due("flying(" + node + ", -1) of " + n, x.flying(node, -1), -1);
            }
        }
    }

    private static void nobodyToFlyTo() {
        Check.promise(11, "NONE: there is no such node: to fly to");
        for (int n = 2; n <= 7; n++) {
            GroupCast x = new GroupCast(n);
            x.submit(0, 8);
            for (int node : new int[] {-2, -1, n, 8, Integer.MIN_VALUE, Integer.MAX_VALUE}) {
                Check.due("flying(0, " + node + ") of " + n, x.flying(0, node), -1);
            }
        }
    }
}
