/** Counts the answers that are not as due, and ends the test with exit code 1 if there was one. */
final class Check {
    private static int wrong = 0;

    private Check() { }

    static void due(String call, long got, long want) {
        if (got != want) {
            wrong++;
            System.out.println(call + " answered " + got + ", due is " + want);
        }
    }

    static void due(String call, boolean got, boolean want) {
        due(call, got ? 1 : 0, want ? 1 : 0);
    }

    /** node(node, what) for what = 0 .. 11, in one row. */
    static void dueNode(String when, GroupCast x, int node, int... wanted) {
        for (int what = 0; what < wanted.length; what++) {
            due(when + ": node(" + node + ", " + what + ")", x.node(node, what), wanted[what]);
        }
    }

    /** The oldest letter of a channel: kind, number, detail, acts. */
    static void dueLetter(String when, GroupCast x, int from, int to, int... wanted) {
        for (int what = 0; what < wanted.length; what++) {
            due(when + ": letter(" + from + ", " + to + ", " + what + ")", x.letter(from, to, what), wanted[what]);
        }
    }

    /** Delivers on one channel, once for each of the answers that are due. */
    static void dueDeliver(String when, GroupCast x, int from, int to, int... wanted) {
        for (int i = 0; i < wanted.length; i++) {
            due(when + ": deliver(" + from + ", " + to + ") no. " + i, x.deliver(from, to), wanted[i]);
        }
    }

    static void dueStack(String when, GroupCast x, int node, int... fromTop) {
        due(when + ": depth(" + node + ")", x.depth(node), fromTop.length);
        for (int i = 0; i < fromTop.length; i++) {
            due(when + ": top(" + node + ", " + i + ")", x.top(node, i), fromTop[i]);
        }
    }

    static void end() {
        System.out.println(wrong == 0 ? "all answers are as due" : wrong + " answers are not as due");
        if (wrong != 0) {
            System.exit(1);
        }
    }
}
