/** Counts the answers that are not as due, and ends the test with exit code 1 if there was one. */
final class Check {
    private static int wrong = 0;
    private static int sentences = 0;
    private static String sentence = "";

    private Check() { }

    /** What follows looks at this sentence of that promise. */
    static void promise(int number, String words) {
        sentences++;
        sentence = "promise " + number + ", '" + words + "': ";
    }

    /** What follows looks at this sentence of the terms, or of the text ahead of them. */
    static void terms(String words) {
        sentences++;
        sentence = "terms, '" + words + "': ";
    }

    static void due(String call, long got, long want) {
        if (got != want) {
            wrong++;
            System.out.println(sentence + call + " answered " + got + ", due is " + want);
        }
    }

    static void due(String call, boolean got, boolean want) {
        due(call, got ? 1 : 0, want ? 1 : 0);
    }

    /** node(node, what) for what = 0 .. 11, in one row. */
    static void dueNode(String when, GroupCast x, int node, int... wanted) {
        for (int what = 0; what < wanted.length; what++) {
            due(when + ": node(" + node + ", " + what + ")", x.node(node, what), wanted[what]);
        }
    }

    /** The oldest letter of a channel: kind, number, detail, acts. */
    static void dueLetter(String when, GroupCast x, int from, int to, int... wanted) {
        for (int what = 0; what < wanted.length; what++) {
            due(when + ": letter(" + from + ", " + to + ", " + what + ")", x.letter(from, to, what), wanted[what]);
        }
    }

    /** Delivers on one channel, once for each of the answers that are due. */
    static void dueDeliver(String when, GroupCast x, int from, int to, int... wanted) {
        for (int i = 0; i < wanted.length; i++) {
            due(when + ": deliver(" + from + ", " + to + ") no. " + i, x.deliver(from, to), wanted[i]);
        }
    }

    /** How many letters fly from one node to each, from node 0 on. */
    static void dueFlying(String when, GroupCast x, int from, int... wanted) {
        for (int to = 0; to < wanted.length; to++) {
            due(when + ": flying(" + from + ", " + to + ")", x.flying(from, to), wanted[to]);
        }
    }

    static void dueStack(String when, GroupCast x, int node, int... fromTop) {
        due(when + ": depth(" + node + ")", x.depth(node), fromTop.length);
        for (int i = 0; i < fromTop.length; i++) {
            due(when + ": top(" + node + ", " + i + ")", x.top(node, i), fromTop[i]);
        }
    }

    static void dueHeld(String when, GroupCast x, int node, int... acts) {
        due(when + ": node(" + node + ", 7)", x.node(node, 7), acts.length);
        for (int i = 0; i < acts.length; i++) {
            due(when + ": held(" + node + ", " + i + ")", x.held(node, i), acts[i]);
        }
    }

    /** count(what) from 0 on. */
    static void dueCounts(String when, GroupCast x, int... wanted) {
        for (int what = 0; what < wanted.length; what++) {
            due(when + ": count(" + what + ")", x.count(what), wanted[what]);
        }
    }

    /** All that can be seen of an object is as it was. */
    static void dueUnchanged(String when, GroupCast x, int n, String before) {
        String after = seen(x, n);
        if (!after.equals(before)) {
            due(when + ": it was\n" + before + "and is\n" + after + "that is changed, which", 1, 0);
        }
    }

    /** All that can be seen of an object: some 160 calls of its 512, for four nodes. */
    static String seen(GroupCast x, int n) {
        StringBuilder all = new StringBuilder();
        for (int node = 0; node < n; node++) {
            all.append("node ").append(node).append(':');
            for (int what = 0; what < 12; what++) {
                all.append(' ').append(x.node(node, what));
            }
            for (int i = 0; i < x.node(node, 7); i++) {
                all.append(" h").append(x.held(node, i));
            }
            for (int i = 0; i < x.depth(node); i++) {
                all.append(" t").append(x.top(node, i));
            }
            for (int to = 0; to < n; to++) {
                all.append(" f").append(x.flying(node, to)).append(" k").append(x.letter(node, to, 0));
            }
            all.append('\n');
        }
        for (int what = 0; what < 5; what++) {
            all.append(x.count(what)).append(' ');
        }
        return all.append('\n').toString();
    }

    static void end() {
        String looked = sentences == 0 ? "" : sentences + " sentences: ";
        System.out.println(looked + (wrong == 0 ? "all answers are as due" : wrong + " answers are not as due"));
        if (wrong != 0) {
            System.exit(1);
        }
    }
}
