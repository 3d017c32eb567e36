/**
 * How many calls: each of the first 512 answers as due, and none ever throws or fails to end, for any
 * arguments in any state, not even after the 512th, where only the answers are free.
 */
public final class CallsTest {
    private static final int CALLS = 512;
    private static final int METHODS = 11;
    private static final int POINTS = 12;
    private static final int MOST_EDGES = 30;
    private static final int SHOWN = 20;
    // Far above the second or so that the test needs: reached only by a call that does not end.
    private static final long MOST_MILLIS = 120_000;
    private static final int[] NUMBERS = {Integer.MIN_VALUE, Integer.MIN_VALUE + 1, Integer.MIN_VALUE + 11,
        -65536, -256, -33, -32, -31, -21, -12, -2, -1, 0, 1, 2, 3, 4, 5, 6, 7, 8, 9, 10, 11, 12, 13, 30, 31, 32,
        33, 43, 64, 256, 65536, Integer.MAX_VALUE - 11, Integer.MAX_VALUE - 1, Integer.MAX_VALUE};

    private static int wrong = 0;
    private static boolean finished = false;

    public static void main(String[] args) throws InterruptedException {
        Thread calls = new Thread(CallsTest::run);
        calls.setDaemon(true);
        calls.start();
        calls.join(MOST_MILLIS);
        if (calls.isAlive()) {
            System.out.println("a call did not end");
            System.exit(1);
        }
        // A thread that threw has told so, and has not finished.
        if (!finished || wrong != 0) {
            System.out.println(finished ? wrong + " answers are not as due" : "a call threw");
            System.exit(1);
        }
        System.out.println("all calls ended, and the first 512 as due");
    }

    private static void run() {
        lastOf512();
        only512Changes();
        only512Refusals();
        anyArgumentsInAnyState();
        anyArgumentsWithAnyCountOfEdges();
        anyNumberNearAndFar();
        finished = true;
    }

    /** 511 calls that change much and then stand at 30 edges in one part; then each method once. */
    private static void lastOf512() {
        int[] want = {-2, 1, 1, 4095, 1, 1, 0, 30, 19, 1, 12};
        for (int method = 0; method < METHODS; method++) {
            LevelForests x = new LevelForests();
            int calls = 0;
            while (calls + 31 < CALLS - 1) {
                due("link(3, 9)", x.link(3, 9), 2);
                due("cut(9, 3)", x.cut(9, 3), 2);
                calls += 2;
            }
            for (int step : new int[] {1, 2, 6}) {
                for (int u = 0; u < (step == 6 ? 6 : POINTS); u++) {
                    x.link(u, (u + step) % POINTS);
                    calls++;
                }
            }
            while (calls < CALLS - 1) {
                due("edges()", x.edges(), 30);
                calls++;
            }
            int v = method == 0 ? 3 : 1;
            due("the 512th call, method " + method, call(x, method, 0, v), want[method]);
        }
    }

    private static void only512Changes() {
        LevelForests x = new LevelForests();
        for (int call = 0; call < CALLS; call++) {
            int u = call / 2 % 11;
            int got = call % 2 == 0 ? x.link(u, 11) : x.cut(11, u);
            due("change " + call, got, 2);
        }
    }

    private static void only512Refusals() {
        LevelForests x = new LevelForests();
        for (int call = 0; call < CALLS - 1; call++) {
            due("refusal " + call, x.link(call % POINTS, call % 2 == 0 ? 12 : -1), -1);
        }
        due("link after 511 refusals", x.link(0, 11), 2);
    }

    private static void anyArgumentsInAnyState() {
        for (int first = 0; first < METHODS; first++) {
            LevelForests x = new LevelForests();
            for (int u : NUMBERS) {
                for (int v : NUMBERS) {
                    for (int i = 0; i < METHODS; i++) {
                        call(x, (first + i) % METHODS, u, v);
                        // Builds up again what the cuts and isolates of the round take away.
                        x.link((u ^ i) & 7, (v + 3 * i) & 7);
                    }
                }
            }
        }
    }

    private static void anyArgumentsWithAnyCountOfEdges() {
        for (int count = 0; count <= MOST_EDGES; count++) {
            for (int u : NUMBERS) {
                for (int v : NUMBERS) {
                    LevelForests x = withEdges(count);
                    due("edges()", x.edges(), count);
                    for (int method = METHODS - 1; method >= 0; method--) {
                        call(x, method, u, v);
                    }
                }
            }
        }
    }

    /** So many edges, taken all over the graph: a step of 25 meets each of the 66 pairs once. */
    private static LevelForests withEdges(int count) {
        LevelForests x = new LevelForests();
        for (int i = 0; i < count; i++) {
            int pair = 25 * i % 66;
            int u = pair % POINTS;
            int step = pair / POINTS + 1;
            x.link(u, (u + step) % POINTS);
        }
        return x;
    }

    private static void anyNumberNearAndFar() {
        LevelForests x = withEdges(20);
        for (int number = -70_000; number <= 70_000; number++) {
            callWith(x, number);
        }
        for (int bit = 4; bit < 32; bit++) {
            for (int low = -POINTS; low <= POINTS; low++) {
                callWith(x, (1 << bit) + low);
                callWith(x, -(1 << bit) + low);
            }
        }
    }

    private static void callWith(LevelForests x, int number) {
        for (int method = 0; method < METHODS; method++) {
            call(x, method, number, number);
            call(x, method, number, 11);
            call(x, method, 0, number);
        }
    }

    private static int call(LevelForests x, int method, int u, int v) {
        return switch (method) {
            case 0 -> x.link(u, v);
            case 1 -> x.cut(u, v);
            case 2 -> x.connected(u, v) ? 1 : 0;
            case 3 -> x.part(u);
            case 4 -> x.parts();
            case 5 -> x.isEdge(u, v) ? 1 : 0;
            case 6 -> x.isBridge(u, v) ? 1 : 0;
            case 7 -> x.edges();
            case 8 -> x.spare();
            case 9 -> x.isolate(u);
            default -> x.greatest();
        };
    }

    private static void due(String what, int got, int want) {
        if (got != want) {
            wrong++;
            if (wrong <= SHOWN) {
                System.out.println(what + " answered " + got + ", due is " + want);
            }
        }
    }
}
