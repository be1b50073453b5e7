/** The text ahead of the terms: an object is used for at most 512 calls. */
public final class TermsCallsTest {
    private static final int CALLS = 512;

    public static void main(String[] args) {
        theLastLook();
        theLastSubmit();
        theLastDeliver();
        theLastTimeout();
        laterCalls();
        Check.end();
    }

    private static void theLastLook() {
        Check.terms("at most 512 calls: the last one, that looks");
        GroupCast x = new GroupCast(7);
        for (int i = 1; i < CALLS; i++) {
            Check.due("call " + i, x.node(i % 7, 4), 6);
        }
        Check.due("the last", x.node(0, 3), 127);
    }

    private static void theLastSubmit() {
        Check.terms("at most 512 calls: the last one, of 511 that submit");
        GroupCast x = new GroupCast(2);
        for (int i = 1; i < CALLS; i++) {
            Check.due("call " + i, x.submit(0, 8), 1);
        }
        Check.due("the last", x.count(1), 11);
    }

    private static void theLastDeliver() {
        Check.terms("at most 512 calls: the last one, of 256 acts that are passed and come");
        GroupCast x = new GroupCast(2);
        for (int i = 0; i < CALLS / 2; i++) {
            Check.due("submit " + i, x.submit(0, 8), 1);
            Check.due("deliver " + i, x.deliver(0, 1), 1);
        }
        GroupCast y = new GroupCast(2);
        for (int i = 0; i < CALLS / 2 - 1; i++) {
            y.submit(0, 8);
            y.deliver(0, 1);
        }
        y.submit(0, 8);
        Check.due("the last: 60 are added, 195 lost", y.count(1), 195);
    }

    private static void theLastTimeout() {
        Check.terms("at most 512 calls: the last one, of 510 flushes");
        GroupCast x = new GroupCast(7);
        x.suspect(6, 0);
        for (int i = 2; i < CALLS; i++) {
            Check.due("call " + i, x.timeout(6), 1);
        }
        Check.due("the last: its number", x.node(6, 5), 6 + 7 * 510);
    }

    private static void laterCalls() {
        Check.terms("what later calls answer is free: but they answer");
        GroupCast x = new GroupCast(7);
        for (int i = 0; i < 20 * CALLS; i++) {
            x.submit(i % 7, 8 * (i % 1000));
            x.suspect(i % 7, i / 7 % 7);
            x.timeout(i % 7);
            x.deliver(i % 7, i / 7 % 7);
            x.letter(i % 7, i / 7 % 7, 3);
            x.held(i % 7, i % 61);
            x.top(i % 7, i % 21);
        }
        Check.due("it answers", x.count(5), -1);
    }
}
