import java.util.ArrayList;
import java.util.List;
import java.util.function.Supplier;

/**
 * One test for each boundary case that a sentence of the document names. A test that fails is told
 * with that sentence. No object is used for more than 512 calls.
 */
public final class BoundaryTest {
    private static final int POINTS = 12;
    private static final int ALL = (1 << POINTS) - 1;
    private static final int BAD = -1;
    private static final int FULL = -2;
    private static final int SHOWN = 5;

    // Beside the nearest and the farthest: numbers that are a point once a shift has cut them
    // modulo 32, and numbers that are one as a byte or a short.
    private static final int[] BELOW = {-1, -2, -12, -21, -32, -256, -65536, Integer.MIN_VALUE + 11, Integer.MIN_VALUE};
    private static final int[] ABOVE = {12, 13, 31, 32, 43, 256, 65536, Integer.MAX_VALUE - 1, Integer.MAX_VALUE};
    private static final int[] INSIDE = {0, 1, 2, 3, 4, 5, 6, 7, 8, 9, 10, 11};

    /** A call on two points; a boolean counts 1 or 0. */
    private interface TwoPoints {
        int ask(LevelForests x, int u, int v);
    }

    private static final TwoPoints LINK = (x, u, v) -> x.link(u, v);
    private static final TwoPoints CUT = (x, u, v) -> x.cut(u, v);
    private static final TwoPoints CONNECTED = (x, u, v) -> x.connected(u, v) ? 1 : 0;
    private static final TwoPoints IS_EDGE = (x, u, v) -> x.isEdge(u, v) ? 1 : 0;
    private static final TwoPoints IS_BRIDGE = (x, u, v) -> x.isBridge(u, v) ? 1 : 0;
    private static final TwoPoints PART = (x, u, v) -> x.part(u);
    private static final TwoPoints ISOLATE = (x, u, v) -> x.isolate(u);

    /** A graph to begin with, and what is due of it, found by hand. */
    private record State(String name, Supplier<LevelForests> make, int[][] edges, int[][] bridges,
            int[] parts, int greatest, int spare) {
    }

    private static final State NONE = new State("no edges", LevelForests::new,
        pairs(), pairs(), alone(), 1, 0);
    private static final State ALL_CUT = new State("all edges cut", BoundaryTest::filledThenCut,
        pairs(), pairs(), alone(), 1, 0);
    private static final State ALL_ISOLATED = new State("all points isolated", BoundaryTest::filledThenIsolated,
        pairs(), pairs(), alone(), 1, 0);
    private static final State ONE_EDGE = state("one edge", pairs(0, 11), pairs(0, 11),
        new int[] {1 << 11 | 1, 2, 4, 8, 16, 32, 64, 128, 256, 512, 1024}, 2, 0);
    private static final State TRIANGLES = state("two triangles, a bridge and an edge alone",
        pairs(0, 1, 1, 2, 2, 0, 2, 3, 3, 4, 4, 5, 5, 3, 6, 7), pairs(2, 3, 6, 7),
        new int[] {63, 192, 256, 512, 1024, 2048}, 6, 2);
    private static final State PATH = state("one path", steps(11, 1), steps(11, 1), new int[] {ALL}, 12, 0);
    private static final State RING = state("one ring", steps(12, 1), pairs(), new int[] {ALL}, 12, 1);
    private static final State STAR = state("one star", star(11), star(11), new int[] {ALL}, 12, 0);
    private static final State ONE_SHORT = state("29 edges", join(everyPair(8), pairs(8, 9)), pairs(8, 9),
        new int[] {255, 256 | 512, 1024, 2048}, 8, 21);
    private static final State FULL_APART = state("30 edges in three parts",
        join(everyPair(8), pairs(8, 9, 9, 10)), pairs(8, 9, 9, 10), new int[] {255, 256 | 512 | 1024, 2048}, 8, 21);
    private static final State FULL_WHOLE = state("30 edges in one part",
        join(steps(12, 1), join(steps(12, 2), steps(6, 6))), pairs(), new int[] {ALL}, 12, 19);
    private static final State FULL_DENSE = state("30 edges on nine points",
        join(everyPair(8), pairs(8, 0, 8, 1)), pairs(), new int[] {511, 512, 1024, 2048}, 9, 22);

    private static final State[] STATES = {NONE, ALL_CUT, ALL_ISOLATED, ONE_EDGE, TRIANGLES, PATH, RING, STAR,
        ONE_SHORT, FULL_APART, FULL_WHOLE, FULL_DENSE};
    private static final State[] WITHOUT_EDGES = {NONE, ALL_CUT, ALL_ISOLATED};
    private static final State[] WITH_30_EDGES = {FULL_APART, FULL_WHOLE, FULL_DENSE};
    private static final State[] IN_ONE_PART = {PATH, RING, STAR, FULL_WHOLE};

    private static String sentence;
    private static int wrongHere;
    private static int tests;
    private static int failed;

    public static void main(String[] args) {
        terms();
        newObject();
        link();
        cut();
        connected();
        part();
        isEdge();
        isBridge();
        counts();
        isolate();
        orderAndLimits();
        refusedCalls();
        askingCalls();
        System.out.println(failed == 0 ? tests + " boundary cases are as due"
            : failed + " of " + tests + " boundary cases are not as due");
        if (failed != 0) {
            System.exit(1);
        }
    }

    // ---- the tests, in the document's order

    private static void terms() {
        test("Terms: 12 POINTS, 0 to 11: the first and the last are points", BoundaryTest::firstAndLastPoint);
        test("Terms: between two different points an EDGE or none: it is one edge from either end",
            BoundaryTest::anEdgeHasNoDirection);
        test("Terms: at most 30 edges are there", BoundaryTest::neverMoreThan30);
        test("Terms: CONNECTED: equal, or over edges, however many", BoundaryTest::connectedOverTheLongestWay);
    }

    private static void newObject() {
        test("1: no edges", () -> dueAll(NONE, new LevelForests()));
        test("1: no edges, whatever other objects hold", () -> {
            LevelForests other = FULL_WHOLE.make.get();
            LevelForests x = new LevelForests();
            other.isolate(3);
            dueAll(NONE, x);
        });
    }

    private static void link() {
        testOutside("2: link, outside 0..11: BAD", LINK, BAD);
        test("2: link, u = v: BAD", () -> dueOfEqual("link", LINK, BAD));
        test("2: link, it is there: 0", () -> dueOfEdges("link", LINK, 0));
        test("2: link, 30 edges are there: FULL", () -> {
            for (State s : WITH_30_EDGES) {
                dueOfNoEdges(s, "link", LINK, FULL);
            }
        });
        test("2: link, 29 edges are there: not FULL", BoundaryTest::linkOfThe30th);
        test("2: link, 30 edges were there and one went: not FULL", BoundaryTest::linkAfterFull);
        test("2: link with no edges: 2", () -> {
            for (State s : WITHOUT_EDGES) {
                dueOfNoEdges(s, "link", LINK, 2);
            }
        });
        test("2: link with all points in one part: 1", () -> {
            for (State s : new State[] {PATH, RING, STAR}) {
                dueOfNoEdges(s, "link", LINK, 1);
            }
        });
        test("2: link of the last two parts: 2, and then all points are in one", BoundaryTest::linkOfTheLastTwo);
    }

    private static void cut() {
        testOutside("3: cut, outside 0..11: BAD", CUT, BAD);
        test("3: cut, u = v: BAD", () -> dueOfEqual("cut", CUT, BAD));
        test("3: cut, it is not there: 0", () -> {
            for (State s : STATES) {
                dueOfNoEdges(s, "cut", CUT, 0);
            }
        });
        test("3: cut, it is not there any more: 0", BoundaryTest::cutOfWhatWent);
        test("3: cut of the last edge: 2", () -> {
            LevelForests x = ONE_EDGE.make.get();
            due("cut(11, 0)", x.cut(11, 0), 2);
            dueAll(NONE, x);
        });
        test("3: cut with all points in one part: 2 for a bridge, 1 if not", () -> {
            for (State s : IN_ONE_PART) {
                dueOfCuts(s);
            }
        });
        test("3: cut with 30 edges there: 2 for a bridge, 1 if not", () -> {
            for (State s : WITH_30_EDGES) {
                dueOfCuts(s);
            }
        });
    }

    private static void connected() {
        testOutside("4: connected, outside 0..11: false", CONNECTED, 0);
        test("4: connected, u = v: true", () -> dueOfEqual("connected", CONNECTED, 1));
        test("4: connected with no edges: u = v alone", () -> {
            for (State s : WITHOUT_EDGES) {
                dueOfNoEdges(s, "connected", CONNECTED, 0);
            }
        });
        test("4: connected with all points in one part: true", () -> {
            for (State s : IN_ONE_PART) {
                dueOfNoEdges(s, "connected", CONNECTED, 1);
                dueOfEdges(s, "connected", CONNECTED, 1);
            }
        });
    }

    private static void part() {
        testOutsideOne("5: part, outside 0..11: BAD", PART, BAD);
        test("5: part with no edges: the point alone", () -> {
            for (State s : WITHOUT_EDGES) {
                for (int u : INSIDE) {
                    due(s.name + ": part(" + u + ")", s.make.get().part(u), 1 << u);
                }
            }
        });
        test("5: part with all points in one part: every bit from 0 to 11, and no other", () -> {
            for (State s : IN_ONE_PART) {
                for (int u : INSIDE) {
                    due(s.name + ": part(" + u + ")", s.make.get().part(u), 4095);
                }
            }
        });
    }

    private static void isEdge() {
        testOutside("7: isEdge, outside 0..11: false", IS_EDGE, 0);
        test("7: isEdge, u = v: false", () -> dueOfEqual("isEdge", IS_EDGE, 0));
        test("7: isEdge, it is there: true", () -> dueOfEdges("isEdge", IS_EDGE, 1));
        test("7: isEdge, it is not there: false, connected or not", () -> {
            for (State s : STATES) {
                dueOfNoEdges(s, "isEdge", IS_EDGE, 0);
            }
        });
    }

    private static void isBridge() {
        testOutside("8: isBridge, outside 0..11: false", IS_BRIDGE, 0);
        test("8: isBridge, u = v: false", () -> dueOfEqual("isBridge", IS_BRIDGE, 0));
        test("8: isBridge, it is not there: false, connected or not", () -> {
            for (State s : STATES) {
                dueOfNoEdges(s, "isBridge", IS_BRIDGE, 0);
            }
        });
        test("8: isBridge where every edge is one: true", () -> {
            for (State s : new State[] {ONE_EDGE, PATH, STAR}) {
                dueOfEdges(s, "isBridge", IS_BRIDGE, 1);
            }
        });
        test("8: isBridge where none is: false", () -> {
            for (State s : new State[] {RING, FULL_WHOLE, FULL_DENSE}) {
                dueOfEdges(s, "isBridge", IS_BRIDGE, 0);
            }
        });
    }

    private static void counts() {
        test("6: parts with no edges: 12", () -> {
            for (State s : WITHOUT_EDGES) {
                due(s.name + ": parts()", s.make.get().parts(), 12);
            }
        });
        test("6: parts with all points in one part: 1", () -> {
            for (State s : IN_ONE_PART) {
                due(s.name + ": parts()", s.make.get().parts(), 1);
            }
        });
        test("9: edges with no edges: 0", () -> {
            for (State s : WITHOUT_EDGES) {
                due(s.name + ": edges()", s.make.get().edges(), 0);
            }
        });
        test("9: edges with 30 edges there: 30", () -> {
            for (State s : WITH_30_EDGES) {
                due(s.name + ": edges()", s.make.get().edges(), 30);
            }
        });
        test("10: spare with no edges, and where every edge is a bridge: 0", () -> {
            for (State s : new State[] {NONE, ALL_CUT, ALL_ISOLATED, ONE_EDGE, PATH, STAR}) {
                due(s.name + ": spare()", s.make.get().spare(), 0);
            }
        });
        test("10: spare with 30 edges there: 19 at least, 22 at most", () -> {
            due("in one part: spare()", FULL_WHOLE.make.get().spare(), 19);
            due("in three parts: spare()", FULL_APART.make.get().spare(), 21);
            due("on nine points: spare()", FULL_DENSE.make.get().spare(), 22);
        });
        test("12: greatest with no edges: 1", () -> {
            for (State s : WITHOUT_EDGES) {
                due(s.name + ": greatest()", s.make.get().greatest(), 1);
            }
        });
        test("12: greatest with all points in one part: 12", () -> {
            for (State s : IN_ONE_PART) {
                due(s.name + ": greatest()", s.make.get().greatest(), 12);
            }
        });
    }

    private static void isolate() {
        testOutsideOne("11: isolate, outside 0..11: BAD", ISOLATE, BAD);
        test("11: isolate with no edges: 0", () -> {
            for (State s : WITHOUT_EDGES) {
                for (int u : INSIDE) {
                    LevelForests x = s.make.get();
                    due(s.name + ": isolate(" + u + ")", x.isolate(u), 0);
                    dueAll(NONE, x);
                }
            }
        });
        test("11: isolate of a point alone beside edges: 0, and none goes", () -> {
            LevelForests x = FULL_APART.make.get();
            due("isolate(11)", x.isolate(11), 0);
            dueAll(FULL_APART, x);
        });
        test("11: isolate again: 0", () -> {
            LevelForests x = STAR.make.get();
            due("isolate(0)", x.isolate(0), 1);
            due("isolate(0)", x.isolate(0), 0);
            due("edges()", x.edges(), 10);
        });
        test("11: isolate where all edges are of this point: 11 parts more, and no edges", () -> {
            for (int middle : INSIDE) {
                LevelForests x = made(star(middle));
                due("isolate(" + middle + ")", x.isolate(middle), 11);
                dueAll(NONE, x);
            }
        });
        test("11: isolate with all points in one part", BoundaryTest::isolateInOnePart);
        test("11: isolate with 30 edges there", BoundaryTest::isolateWhenFull);
    }

    private static void orderAndLimits() {
        test("13: link, BAD before FULL: outside 0..11 with 30 edges there", () -> {
            for (State s : WITH_30_EDGES) {
                dueOfOutside(s, "link", LINK, BELOW, INSIDE, BAD);
                dueOfOutside(s, "link", LINK, INSIDE, ABOVE, BAD);
            }
        });
        test("13: link, BAD before FULL: u = v with 30 edges there", () -> {
            for (State s : WITH_30_EDGES) {
                dueOfEqual(s, "link", LINK, BAD);
            }
        });
        test("13: link, 0 before FULL: it is there, with 30 edges there", () -> {
            for (State s : WITH_30_EDGES) {
                dueOfEdges(s, "link", LINK, 0);
            }
        });
        test("13: link, BAD before 0: the numbers of an edge that is there, but for one bit", () -> {
            for (int bit = 4; bit < 32; bit++) {
                LevelForests x = FULL_DENSE.make.get();
                due("link(0, 1 with bit " + bit + ")", x.link(0, 1 | 1 << bit), BAD);
                due("link(0 with bit " + bit + ", 1)", x.link(1 << bit, 1), BAD);
            }
        });
    }

    private static void refusedCalls() {
        testChangesNothing("2: link refused with BAD", STATES, s -> outsideAndEqual(LINK));
        testChangesNothing("2: link refused with 0", STATES, s -> onEach(LINK, s.edges));
        testChangesNothing("2: link refused with 0, from the other end", STATES, s -> onEach(LINK, turned(s.edges)));
        testChangesNothing("2: link refused with FULL", WITH_30_EDGES, s -> onEach(LINK, missing(s)));
        testChangesNothing("3: cut refused with BAD", STATES, s -> outsideAndEqual(CUT));
        testChangesNothing("3: cut refused with 0", STATES, s -> onEach(CUT, missing(s)));
        testChangesNothing("3: cut refused with 0, from the other end", STATES, s -> onEach(CUT, turned(missing(s))));
        testChangesNothing("4: connected, outside 0..11 or u = v", STATES, s -> outsideAndEqual(CONNECTED));
        testChangesNothing("5: part refused with BAD", STATES, s -> outsideOne(PART));
        testChangesNothing("7: isEdge, outside 0..11 or u = v", STATES, s -> outsideAndEqual(IS_EDGE));
        testChangesNothing("8: isBridge, outside 0..11 or u = v", STATES, s -> outsideAndEqual(IS_BRIDGE));
        testChangesNothing("11: isolate refused with BAD", STATES, s -> outsideOne(ISOLATE));
    }

    private static void askingCalls() {
        int[][] all = join(everyPair(POINTS), turned(everyPair(POINTS)));
        testChangesNothing("4: connected", STATES, s -> onEach(CONNECTED, all));
        testChangesNothing("5: part", STATES, s -> onEach(PART, steps(12, 1)));
        testChangesNothing("6: parts", STATES, s -> List.of(LevelForests::parts));
        testChangesNothing("7: isEdge", STATES, s -> onEach(IS_EDGE, all));
        testChangesNothing("8: isBridge", STATES, s -> onEach(IS_BRIDGE, all));
        testChangesNothing("9: edges", STATES, s -> List.of(LevelForests::edges));
        testChangesNothing("10: spare", STATES, s -> List.of(LevelForests::spare));
        testChangesNothing("12: greatest", STATES, s -> List.of(LevelForests::greatest));
    }

    // ---- the tests that need more than a line or two

    private static void firstAndLastPoint() {
        for (int u : new int[] {0, 11}) {
            int v = 11 - u;
            LevelForests x = new LevelForests();
            due("part(" + u + ")", x.part(u), 1 << u);
            due("connected(u, u)", x.connected(u, u), true);
            due("link(" + u + ", " + v + ")", x.link(u, v), 2);
            due("isEdge(" + u + ", " + v + ")", x.isEdge(u, v), true);
            due("isBridge(" + u + ", " + v + ")", x.isBridge(u, v), true);
            due("connected(" + u + ", " + v + ")", x.connected(u, v), true);
            due("part(" + u + ")", x.part(u), 2049);
            due("isolate(" + u + ")", x.isolate(u), 1);
            due("link(" + u + ", " + v + ")", x.link(u, v), 2);
            due("cut(" + u + ", " + v + ")", x.cut(u, v), 2);
            dueAll(NONE, x);
        }
    }

    private static void anEdgeHasNoDirection() {
        for (int[] e : missing(NONE)) {
            LevelForests x = new LevelForests();
            String told = e[0] + ", " + e[1] + ": ";
            due(told + "link", x.link(e[0], e[1]), 2);
            due(told + "link from the other end", x.link(e[1], e[0]), 0);
            due(told + "edges", x.edges(), 1);
            due(told + "isEdge from the other end", x.isEdge(e[1], e[0]), true);
            due(told + "cut from the other end", x.cut(e[1], e[0]), 2);
            dueAll(NONE, x);
        }
    }

    private static void neverMoreThan30() {
        LevelForests x = new LevelForests();
        int made = 0;
        for (int u : INSIDE) {
            for (int v = u + 1; v < POINTS; v++) {
                due("link(" + u + ", " + v + ")", x.link(u, v), made == 30 ? FULL : u == 0 ? 2 : 1);
                made = made == 30 ? 30 : made + 1;
                due("edges()", x.edges(), made);
            }
        }
    }

    private static void connectedOverTheLongestWay() {
        // The ways go to and fro, so that no order of looking at the points is quicker than another.
        int[][] ways = {INSIDE, {11, 10, 9, 8, 7, 6, 5, 4, 3, 2, 1, 0}, {0, 11, 1, 10, 2, 9, 3, 8, 4, 7, 5, 6},
            {6, 5, 7, 4, 8, 3, 9, 2, 10, 1, 11, 0}, {1, 3, 5, 7, 9, 11, 10, 8, 6, 4, 2, 0}};
        for (int[] way : ways) {
            LevelForests x = new LevelForests();
            for (int i = 1; i < POINTS; i++) {
                due("connected before the way is whole", x.connected(way[0], way[11]), false);
                x.link(way[i - 1], way[i]);
            }
            due("connected over 11 edges", x.connected(way[0], way[11]), true);
            due("connected over 11 edges, back", x.connected(way[11], way[0]), true);
        }
    }

    private static void linkOfThe30th() {
        for (int[] e : missing(ONE_SHORT)) {
            LevelForests x = ONE_SHORT.make.get();
            // All that is missing there goes from one part to another: 0..7 and 8, 9 are complete.
            due("link(" + e[0] + ", " + e[1] + ")", x.link(e[0], e[1]), 2);
            due("edges()", x.edges(), 30);
        }
        LevelForests whole = FULL_WHOLE.make.get();
        due("cut(0, 6)", whole.cut(0, 6), 1);
        due("link(0, 5) inside a part", whole.link(0, 5), 1);
        due("edges()", whole.edges(), 30);
    }

    private static void linkAfterFull() {
        LevelForests x = FULL_APART.make.get();
        due("link(10, 11)", x.link(10, 11), FULL);
        due("cut(8, 9)", x.cut(8, 9), 2);
        due("link(10, 11)", x.link(10, 11), 2);
        due("link(8, 9)", x.link(8, 9), FULL);
        due("isolate(0)", x.isolate(0), 1);
        for (int v = 8; v < 11; v++) {
            due("link(1, " + v + ")", x.link(1, v), v == 10 ? 1 : 2);
            due("link(2, " + v + ")", x.link(2, v), 1);
        }
        due("link(3, 11)", x.link(3, 11), 1);
        due("edges()", x.edges(), 30);
        due("link(0, 1)", x.link(0, 1), FULL);
    }

    private static void linkOfTheLastTwo() {
        for (int left : INSIDE) {
            LevelForests x = new LevelForests();
            int middle = left == 5 ? 6 : 5;
            for (int v : INSIDE) {
                if (v != left && v != middle) {
                    x.link(middle, v);
                }
            }
            due("parts() without " + left, x.parts(), 2);
            due("link(" + left + ", " + middle + ")", x.link(left, middle), 2);
            due("parts()", x.parts(), 1);
            due("part(" + left + ")", x.part(left), ALL);
        }
    }

    private static void cutOfWhatWent() {
        LevelForests x = TRIANGLES.make.get();
        due("cut(2, 3)", x.cut(2, 3), 2);
        due("cut(2, 3)", x.cut(2, 3), 0);
        due("cut(3, 2)", x.cut(3, 2), 0);
        due("isolate(4)", x.isolate(4), 1);
        due("cut(3, 4)", x.cut(3, 4), 0);
        due("cut(5, 4)", x.cut(5, 4), 0);
        due("edges()", x.edges(), 5);
    }

    private static void isolateInOnePart() {
        for (int u : INSIDE) {
            boolean end = u == 0 || u == 11;
            due("path: isolate(" + u + ")", PATH.make.get().isolate(u), end ? 1 : 2);
            due("ring: isolate(" + u + ")", RING.make.get().isolate(u), 1);
            due("star: isolate(" + u + ")", STAR.make.get().isolate(u), u == 11 ? 11 : 1);
            LevelForests x = FULL_WHOLE.make.get();
            due("30 edges: isolate(" + u + ")", x.isolate(u), 1);
            due("30 edges: edges()", x.edges(), 25);
            due("30 edges: part(" + u + ")", x.part(u), 1 << u);
        }
    }

    private static void isolateWhenFull() {
        LevelForests x = FULL_APART.make.get();
        due("isolate(9)", x.isolate(9), 2);
        due("edges()", x.edges(), 28);
        due("isolate(0)", x.isolate(0), 1);
        due("edges()", x.edges(), 21);
        due("isolate(7)", x.isolate(7), 1);
        due("edges()", x.edges(), 15);
        due("parts()", x.parts(), 7);
    }

    // ---- ways of asking

    /** Numbers outside 0..11 as u, as v and as both, each a test of its own. */
    private static void testOutside(String what, TwoPoints call, int want) {
        test(what + ", u below 0", () -> dueOfOutside(what, call, BELOW, INSIDE, want));
        test(what + ", u above 11", () -> dueOfOutside(what, call, ABOVE, INSIDE, want));
        test(what + ", v below 0", () -> dueOfOutside(what, call, INSIDE, BELOW, want));
        test(what + ", v above 11", () -> dueOfOutside(what, call, INSIDE, ABOVE, want));
        test(what + ", both below 0, equal or not", () -> dueOfOutside(what, call, BELOW, BELOW, want));
        test(what + ", both above 11, equal or not", () -> dueOfOutside(what, call, ABOVE, ABOVE, want));
        test(what + ", u below 0 and v above 11", () -> dueOfOutside(what, call, BELOW, ABOVE, want));
        test(what + ", u above 11 and v below 0", () -> dueOfOutside(what, call, ABOVE, BELOW, want));
    }

    private static void testOutsideOne(String what, TwoPoints call, int want) {
        test(what + ", u below 0", () -> dueOfOutside(what, call, BELOW, new int[] {0}, want));
        test(what + ", u above 11", () -> dueOfOutside(what, call, ABOVE, new int[] {0}, want));
    }

    private static void dueOfOutside(String what, TwoPoints call, int[] us, int[] vs, int want) {
        for (State s : STATES) {
            dueOfOutside(s, what, call, us, vs, want);
        }
    }

    private static void dueOfOutside(State s, String what, TwoPoints call, int[] us, int[] vs, int want) {
        LevelForests x = s.make.get();
        for (int u : us) {
            for (int v : vs) {
                due(s.name + ": " + what + "(" + u + ", " + v + ")", call.ask(x, u, v), want);
            }
        }
    }

    private static void dueOfEqual(String what, TwoPoints call, int want) {
        for (State s : STATES) {
            dueOfEqual(s, what, call, want);
        }
    }

    private static void dueOfEqual(State s, String what, TwoPoints call, int want) {
        for (int u : INSIDE) {
            due(s.name + ": " + what + "(" + u + ", " + u + ")", call.ask(s.make.get(), u, u), want);
        }
    }

    private static void dueOfEdges(String what, TwoPoints call, int want) {
        for (State s : STATES) {
            dueOfEdges(s, what, call, want);
        }
    }

    private static void dueOfEdges(State s, String what, TwoPoints call, int want) {
        for (int[] e : s.edges) {
            dueBothWays(s, what, call, e, want);
        }
    }

    private static void dueOfNoEdges(State s, String what, TwoPoints call, int want) {
        for (int[] e : missing(s)) {
            dueBothWays(s, what, call, e, want);
        }
    }

    private static void dueOfCuts(State s) {
        for (int[] e : s.edges) {
            dueBothWays(s, "cut", CUT, e, has(s.bridges, e[0], e[1]) ? 2 : 1);
        }
    }

    /** Each on an object of its own, as the call may change it. */
    private static void dueBothWays(State s, String what, TwoPoints call, int[] e, int want) {
        due(s.name + ": " + what + "(" + e[0] + ", " + e[1] + ")", call.ask(s.make.get(), e[0], e[1]), want);
        due(s.name + ": " + what + "(" + e[1] + ", " + e[0] + ")", call.ask(s.make.get(), e[1], e[0]), want);
    }

    /** All that can be asked of x, against what is due of the state; fewer than 350 calls. */
    private static void dueAll(State s, LevelForests x) {
        due(s.name + ": edges()", x.edges(), s.edges.length);
        due(s.name + ": parts()", x.parts(), s.parts.length);
        due(s.name + ": greatest()", x.greatest(), s.greatest);
        due(s.name + ": spare()", x.spare(), s.spare);
        for (int u : INSIDE) {
            int part = partOf(s, u);
            due(s.name + ": part(" + u + ")", x.part(u), part);
            for (int v = u; v < POINTS; v++) {
                String told = "(" + u + ", " + v + ")";
                due(s.name + ": connected" + told, x.connected(u, v), (part >> v & 1) == 1);
                due(s.name + ": isEdge" + told, x.isEdge(u, v), has(s.edges, u, v));
                due(s.name + ": isBridge" + told, x.isBridge(v, u), has(s.bridges, u, v));
            }
        }
    }

    // ---- later answers

    /** A call whose answer is not looked at. */
    private interface Call {
        void make(LevelForests x);
    }

    /** The calls that are to leave a graph of this state as it was; fewer than 150. */
    private interface Calls {
        List<Call> of(State s);
    }

    /** Each of the calls alone, as two might undo each other; and all together, as they might add up. */
    private static void testChangesNothing(String what, State[] states, Calls calls) {
        test(what + ": every later answer is as without it", () -> {
            for (State s : states) {
                for (Call call : calls.of(s)) {
                    dueAll(s, after(s, List.of(call)));
                }
                dueSameLater(s, calls.of(s));
            }
        });
    }

    private static LevelForests after(State s, List<Call> calls) {
        LevelForests x = s.make.get();
        for (Call call : calls) {
            call.make(x);
        }
        return x;
    }

    private static void dueSameLater(State s, List<Call> calls) {
        dueCounts(s, after(s, calls));
        due(s.name + ": the links and cuts after it", filledAndEmptied(after(s, calls)),
            filledAndEmptied(s.make.get()));
        for (int u : INSIDE) {
            LevelForests x = after(s, calls);
            LevelForests twin = s.make.get();
            due(s.name + ": isolate(" + u + ") after it", x.isolate(u), twin.isolate(u));
            due(s.name + ": edges() after isolate(" + u + ")", x.edges(), twin.edges());
            dueFrom(s, after(s, calls), u);
        }
    }

    private static void dueCounts(State s, LevelForests x) {
        due(s.name + ": edges() after it", x.edges(), s.edges.length);
        due(s.name + ": parts() after it", x.parts(), s.parts.length);
        due(s.name + ": greatest() after it", x.greatest(), s.greatest);
        due(s.name + ": spare() after it", x.spare(), s.spare);
    }

    private static void dueFrom(State s, LevelForests x, int u) {
        int part = partOf(s, u);
        due(s.name + ": part(" + u + ") after it", x.part(u), part);
        for (int v : INSIDE) {
            String told = "(" + u + ", " + v + ") after it";
            due(s.name + ": connected" + told, x.connected(u, v), (part >> v & 1) == 1);
            due(s.name + ": isEdge" + told, x.isEdge(u, v), has(s.edges, u, v));
            due(s.name + ": isBridge" + told, x.isBridge(u, v), has(s.bridges, u, v));
        }
    }

    /** The answers of links as far as they go, and of cuts until no edge is left: a count that the
     *  object keeps beside its edges, and that is off by one, is seen at the 30th or at the last. */
    private static String filledAndEmptied(LevelForests x) {
        StringBuilder answers = new StringBuilder();
        for (int[] e : everyPair(POINTS)) {
            answers.append(x.link(e[0], e[1])).append(' ');
        }
        for (int[] e : everyPair(POINTS)) {
            answers.append(x.cut(e[1], e[0])).append(' ');
        }
        return answers.append(x.edges()).toString();
    }

    private static List<Call> onEach(TwoPoints call, int[][] arguments) {
        List<Call> calls = new ArrayList<>();
        for (int[] a : arguments) {
            calls.add(x -> call.ask(x, a[0], a[1]));
        }
        return calls;
    }

    private static List<Call> outsideAndEqual(TwoPoints call) {
        List<int[]> arguments = new ArrayList<>();
        for (int[] numbers : new int[][] {BELOW, ABOVE}) {
            for (int i = 0; i < numbers.length; i++) {
                arguments.add(new int[] {numbers[i], i});
                arguments.add(new int[] {i + 3, numbers[i]});
                arguments.add(new int[] {numbers[i], numbers[i]});
                arguments.add(new int[] {numbers[i], numbers[numbers.length - 1 - i]});
            }
        }
        for (int u : INSIDE) {
            arguments.add(new int[] {u, u});
        }
        return onEach(call, arguments.toArray(new int[0][]));
    }

    private static List<Call> outsideOne(TwoPoints call) {
        List<Call> calls = new ArrayList<>();
        for (int[] numbers : new int[][] {BELOW, ABOVE}) {
            for (int u : numbers) {
                calls.add(x -> call.ask(x, u, 0));
            }
        }
        return calls;
    }

    // ---- making graphs

    private static State state(String name, int[][] edges, int[][] bridges, int[] parts, int greatest, int spare) {
        return new State(name, () -> made(edges), edges, bridges, parts, greatest, spare);
    }

    private static LevelForests made(int[][] edges) {
        LevelForests x = new LevelForests();
        for (int[] e : edges) {
            x.link(e[0], e[1]);
        }
        return x;
    }

    private static LevelForests filledThenCut() {
        LevelForests x = FULL_WHOLE.make.get();
        for (int[] e : FULL_WHOLE.edges) {
            x.cut(e[1], e[0]);
        }
        return x;
    }

    private static LevelForests filledThenIsolated() {
        LevelForests x = FULL_APART.make.get();
        for (int u : INSIDE) {
            x.isolate(u);
        }
        return x;
    }

    private static int[][] pairs(int... ends) {
        int[][] edges = new int[ends.length / 2][];
        for (int i = 0; i < edges.length; i++) {
            edges[i] = new int[] {ends[2 * i], ends[2 * i + 1]};
        }
        return edges;
    }

    /** From each of the points below count, the edge to the point so many further on the ring. */
    private static int[][] steps(int count, int step) {
        int[][] edges = new int[count][];
        for (int u = 0; u < count; u++) {
            edges[u] = new int[] {u, (u + step) % POINTS};
        }
        return edges;
    }

    private static int[][] star(int middle) {
        int[][] edges = new int[POINTS - 1][];
        for (int i = 1; i < POINTS; i++) {
            edges[i - 1] = new int[] {middle, (middle + i) % POINTS};
        }
        return edges;
    }

    private static int[][] everyPair(int points) {
        List<int[]> edges = new ArrayList<>();
        for (int u = 0; u < points; u++) {
            for (int v = u + 1; v < points; v++) {
                edges.add(new int[] {u, v});
            }
        }
        return edges.toArray(new int[0][]);
    }

    private static int[][] join(int[][] some, int[][] more) {
        List<int[]> edges = new ArrayList<>(List.of(some));
        edges.addAll(List.of(more));
        return edges.toArray(new int[0][]);
    }

    private static int[][] turned(int[][] edges) {
        int[][] back = new int[edges.length][];
        for (int i = 0; i < edges.length; i++) {
            back[i] = new int[] {edges[i][1], edges[i][0]};
        }
        return back;
    }

    private static int[] alone() {
        int[] parts = new int[POINTS];
        for (int u : INSIDE) {
            parts[u] = 1 << u;
        }
        return parts;
    }

    private static int[][] missing(State s) {
        List<int[]> edges = new ArrayList<>();
        for (int[] e : everyPair(POINTS)) {
            if (!has(s.edges, e[0], e[1])) {
                edges.add(e);
            }
        }
        return edges.toArray(new int[0][]);
    }

    private static boolean has(int[][] edges, int u, int v) {
        for (int[] e : edges) {
            if (e[0] == u && e[1] == v || e[0] == v && e[1] == u) {
                return true;
            }
        }
        return false;
    }

    private static int partOf(State s, int u) {
        for (int part : s.parts) {
            if ((part >> u & 1) == 1) {
                return part;
            }
        }
        throw new IllegalStateException(s.name + " has no part of " + u);
    }

    // ---- telling

    private static void test(String what, Runnable body) {
        sentence = what;
        wrongHere = 0;
        tests++;
        try {
            body.run();
        } catch (RuntimeException | StackOverflowError e) {
            tell("threw " + e);
        }
        if (wrongHere != 0) {
            failed++;
        }
        if (wrongHere > SHOWN) {
            System.out.println("[" + sentence + "] .. and " + (wrongHere - SHOWN) + " more");
        }
    }

    private static void tell(String what) {
        wrongHere++;
        if (wrongHere <= SHOWN) {
            System.out.println("[" + sentence + "] " + what);
        }
    }

    private static void due(String what, Object got, Object want) {
        if (!got.equals(want)) {
            tell(what + " answered " + got + ", due is " + want);
        }
    }
}
