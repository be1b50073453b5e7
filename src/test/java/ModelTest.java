import java.util.Random;

/** Long runs of calls, always the same ones, whose answers are compared with the model's. */
public final class ModelTest {
    private static final int CALLS = 512;

    private final int seed;
    private final int n;
    private final Random random;
    private final GroupCast x;
    private final Model model;
    private final int deliverShare;
    private final int submitShare;
    private final int troubleShare;
    private int calls = 0;

    private ModelTest(int seed) {
        this.seed = seed;
        random = new Random(seed);
        n = 2 + random.nextInt(6);
        x = new GroupCast(n);
        model = new Model(n);
        deliverShare = new int[] {60, 70, 80, 5}[seed % 4];
        submitShare = new int[] {10, 15, 5, 60}[seed % 4];
        troubleShare = new int[] {6, 2, 10, 5}[seed % 4];
    }

    public static void main(String[] args) {
        for (int seed = 0; seed < 6000; seed++) {
            new ModelTest(seed).run();
        }
        Check.end();
    }

    private void run() {
        while (calls < CALLS) {
            int draw = random.nextInt(100);
            if (draw < deliverShare) {
                deliverSome();
            } else if (draw < deliverShare + submitShare) {
                int node = random.nextInt(3) == 0 ? anyNode() : n - 1 - random.nextInt(2);
                int act = anyAct();
                due("submit", x.submit(node, act), model.submit(node, act), node, act);
            } else if (draw < deliverShare + submitShare + troubleShare) {
                trouble();
            } else {
                look();
            }
        }
    }

    /** The model tells which channels have letters, so that few calls are spent on empty ones. */
    private void deliverSome() {
        int start = random.nextInt(n * n);
        for (int i = 0; i < n * n; i++) {
            int from = (start + i) % (n * n) / n;
            int to = (start + i) % n;
            if (model.flying(from, to) > 0) {
                due("deliver", x.deliver(from, to), model.deliver(from, to), from, to);
                return;
            }
        }
        int from = anyNode();
        int to = anyNode();
        due("deliver", x.deliver(from, to), model.deliver(from, to), from, to);
    }

    private void trouble() {
        int node = anyNode();
        int peer = random.nextInt(2) == 0 ? n - 1 - random.nextInt(2) : anyNode();
        int draw = random.nextInt(20);
        if (draw < 9) {
            due("suspect", x.suspect(node, peer), model.suspect(node, peer), node, peer);
        } else if (draw < 19) {
            due("timeout", x.timeout(node), model.timeout(node), node);
        } else {
            due("crash", x.crash(node) ? 1 : 0, model.crash(node) ? 1 : 0, node);
        }
    }

    private void look() {
        int a = anyNode();
        int b = anyNode();
        int what = random.nextInt(14) - 1;
        switch (random.nextInt(7)) {
            case 0: due("held", x.held(a, what), model.held(a, what), a, what); break;
            case 1: due("depth", x.depth(a), model.depth(a), a); break;
            case 2: due("top", x.top(a, what), model.top(a, what), a, what); break;
            case 3: due("flying", x.flying(a, b), model.flying(a, b), a, b); break;
            case 4: due("letter", x.letter(a, b, what % 5), model.letter(a, b, what % 5), a, b, what % 5); break;
            case 5: due("count", x.count(what % 6), model.count(what % 6), what % 6); break;
            default: due("node", x.node(a, what), model.node(a, what), a, what); break;
        }
    }

    private int anyNode() {
        int draw = random.nextInt(80);
        return draw == 0 ? random.nextInt(12) - 2 : draw == 1 ? random.nextInt() : random.nextInt(n);
    }

    private int anyAct() {
        switch (random.nextInt(12)) {
            case 0: return random.nextInt(10) == 0 ? random.nextInt() : random.nextInt(20) - 10;
            case 1: case 2: case 3: case 4: return 1 + random.nextInt(5);
            default: return 8 * (random.nextInt(2001) - 1000);
        }
    }

    private void due(String name, int got, int want, int... arguments) {
        calls++;
        if (got != want) {
            String call = name + java.util.Arrays.toString(arguments);
            Check.due("seed " + seed + ", call " + calls + ": " + call, got, want);
            calls = CALLS;
        }
    }
}
