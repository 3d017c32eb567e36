/** Each promise by hand: ordinary inputs, the edges that the document names, and wrong inputs. */
public final class PromisesTest {
    private static final int POINTS = 12;
    private static final int ALL = (1 << POINTS) - 1;
    // Some of these are 0..11 modulo 32, which a shift by them would not notice.
    private static final int[] OUTSIDE = {-1, -2, -12, -32, -21, 12, 13, 31, 32, 33, 43, 64,
        Integer.MIN_VALUE, Integer.MIN_VALUE + 1, Integer.MAX_VALUE, Integer.MAX_VALUE - 1};

    private static int wrong = 0;

    public static void main(String[] args) {
        promise1NewObject();
        promise2Link();
        promise2LinkWrongInputs();
        promise3Cut();
        promise3CutWrongInputs();
        promise4Connected();
        promise5Part();
        promise6Parts();
        promise7IsEdge();
        promise8IsBridge();
        promise9Edges();
        promise10Spare();
        promise11Isolate();
        promise12Greatest();
        promise13OrderAndLimits();
        objectsAreApart();
        System.out.println(wrong == 0 ? "all answers are as due" : wrong + " answers are not as due");
        if (wrong != 0) {
            System.exit(1);
        }
    }

    private static void due(String what, int got, int want) {
        if (got != want) {
            wrong++;
            System.out.println(what + " answered " + got + ", due is " + want);
        }
    }

    private static void due(String what, boolean got, boolean want) {
        if (got != want) {
            wrong++;
            System.out.println(what + " answered " + got + ", due is " + want);
        }
    }

    private static void dueCounts(String what, LevelForests x, int edges, int parts, int spare, int greatest) {
        due(what + ": edges()", x.edges(), edges);
        due(what + ": parts()", x.parts(), parts);
        due(what + ": spare()", x.spare(), spare);
        due(what + ": greatest()", x.greatest(), greatest);
    }

    /** 0-1-2 a triangle, 3-4-5 a triangle, 2-3 the bridge between them, 6-7 an edge alone. */
    private static LevelForests twoTriangles() {
        LevelForests x = new LevelForests();
        x.link(0, 1);
        x.link(1, 2);
        x.link(2, 0);
        x.link(2, 3);
        x.link(3, 4);
        x.link(4, 5);
        x.link(5, 3);
        x.link(6, 7);
        return x;
    }

    /** The edges 0-1, 1-2, .. 10-11, linked from the far end so that nothing is found in order. */
    private static LevelForests path() {
        LevelForests x = new LevelForests();
        for (int u = POINTS - 2; u >= 0; u--) {
            x.link(u + 1, u);
        }
        return x;
    }

    /** The 28 edges among 0..7, and 8-9 and 9-10: 30 edges, and point 11 alone. */
    private static LevelForests fullOne() {
        LevelForests x = new LevelForests();
        for (int u = 0; u < 8; u++) {
            for (int v = u + 1; v < 8; v++) {
                x.link(u, v);
            }
        }
        x.link(8, 9);
        x.link(9, 10);
        return x;
    }

    private static void promise1NewObject() {
        LevelForests x = new LevelForests();
        dueCounts("new", x, 0, 12, 0, 1);
        for (int u = 0; u < POINTS; u++) {
            due("new: part(" + u + ")", x.part(u), 1 << u);
            for (int v = 0; v < POINTS; v++) {
                due("new: isEdge(" + u + ", " + v + ")", x.isEdge(u, v), false);
                due("new: connected(" + u + ", " + v + ")", x.connected(u, v), u == v);
            }
        }
    }

    private static void promise2Link() {
        LevelForests x = new LevelForests();
        due("link(0, 11) of two parts", x.link(0, 11), 2);
        due("link(0, 11) again", x.link(0, 11), 0);
        due("link(11, 0), the same edge", x.link(11, 0), 0);
        due("edges after one link", x.edges(), 1);
        due("link(11, 5) of two parts", x.link(11, 5), 2);
        due("link(5, 0) inside a part", x.link(5, 0), 1);
        due("link(3, 4) of two parts", x.link(3, 4), 2);
        due("link(4, 0) of two greater parts", x.link(4, 0), 2);
        due("link(3, 5) inside a part", x.link(3, 5), 1);
        due("edges after links", x.edges(), 6);
        due("link(11, 0) of a path's ends", path().link(11, 0), 1);
        for (int u = 0; u < POINTS; u++) {
            for (int v = 0; v < POINTS; v++) {
                if (u != v) {
                    LevelForests y = new LevelForests();
                    due("first link(" + u + ", " + v + ")", y.link(u, v), 2);
                    due("part after link(" + u + ", " + v + ")", y.part(v), 1 << u | 1 << v);
                }
            }
        }
        LevelForests z = twoTriangles();
        z.cut(0, 1);
        due("link(0, 1) after its cut", z.link(0, 1), 1);
        z.cut(6, 7);
        due("link(7, 6) after its cut", z.link(7, 6), 2);
    }

    private static void promise2LinkWrongInputs() {
        LevelForests x = twoTriangles();
        for (int bad : OUTSIDE) {
            due("link(" + bad + ", 3)", x.link(bad, 3), LevelForests.BAD);
            due("link(3, " + bad + ")", x.link(3, bad), LevelForests.BAD);
            due("link(" + bad + ", " + bad + ")", x.link(bad, bad), LevelForests.BAD);
        }
        for (int u = 0; u < POINTS; u++) {
            due("link(" + u + ", " + u + ")", x.link(u, u), LevelForests.BAD);
        }
        dueCounts("after wrong links", x, 8, 6, 2, 6);
    }

    private static void promise3Cut() {
        LevelForests x = twoTriangles();
        due("cut(1, 0) in a ring", x.cut(1, 0), 1);
        due("cut(0, 1) again", x.cut(0, 1), 0);
        due("cut(1, 0) again", x.cut(1, 0), 0);
        due("cut(0, 2), now a bridge", x.cut(0, 2), 2);
        due("cut(3, 2), a bridge", x.cut(3, 2), 2);
        due("cut(0, 5), never there", x.cut(0, 5), 0);
        due("cut(8, 9), never there", x.cut(8, 9), 0);
        dueCounts("after cuts", x, 5, 8, 1, 3);
        due("isEdge(3, 2) after its cut", x.isEdge(3, 2), false);
        due("isEdge(2, 3) after its cut", x.isEdge(2, 3), false);
        LevelForests ring = path();
        ring.link(0, 11);
        due("cut(5, 6) in the ring of all", ring.cut(5, 6), 1);
        due("cut(0, 11), a path's middle", ring.cut(0, 11), 2);
    }

    private static void promise3CutWrongInputs() {
        LevelForests x = twoTriangles();
        for (int bad : OUTSIDE) {
            due("cut(" + bad + ", 3)", x.cut(bad, 3), LevelForests.BAD);
            due("cut(3, " + bad + ")", x.cut(3, bad), LevelForests.BAD);
            due("cut(" + bad + ", " + bad + ")", x.cut(bad, bad), LevelForests.BAD);
        }
        for (int u = 0; u < POINTS; u++) {
            due("cut(" + u + ", " + u + ")", x.cut(u, u), LevelForests.BAD);
        }
        dueCounts("after wrong cuts", x, 8, 6, 2, 6);
    }

    private static void promise4Connected() {
        LevelForests x = twoTriangles();
        due("connected(0, 5)", x.connected(0, 5), true);
        due("connected(5, 0)", x.connected(5, 0), true);
        due("connected(7, 6)", x.connected(7, 6), true);
        due("connected(0, 6)", x.connected(0, 6), false);
        due("connected(8, 9)", x.connected(8, 9), false);
        x.cut(2, 3);
        due("connected(0, 5) without 2-3", x.connected(0, 5), false);
        LevelForests long1 = path();
        due("connected(0, 11) over the path", long1.connected(0, 11), true);
        due("connected(11, 0) over the path", long1.connected(11, 0), true);
        for (int u = 0; u < POINTS; u++) {
            due("connected(" + u + ", " + u + ")", x.connected(u, u), true);
        }
        for (int bad : OUTSIDE) {
            due("connected(" + bad + ", 0)", long1.connected(bad, 0), false);
            due("connected(0, " + bad + ")", long1.connected(0, bad), false);
            due("connected(" + bad + ", " + bad + ")", long1.connected(bad, bad), false);
        }
    }

    private static void promise5Part() {
        LevelForests x = twoTriangles();
        for (int u = 0; u < POINTS; u++) {
            int want = u < 6 ? 63 : u < 8 ? 192 : 1 << u;
            due("part(" + u + ")", x.part(u), want);
            due("path: part(" + u + ")", path().part(u), ALL);
        }
        for (int bad : OUTSIDE) {
            due("part(" + bad + ")", x.part(bad), LevelForests.BAD);
        }
        LevelForests scattered = new LevelForests();
        scattered.link(11, 2);
        scattered.link(2, 9);
        scattered.link(9, 0);
        due("part(11) of a scattered part", scattered.part(11), 1 << 11 | 1 << 9 | 1 << 2 | 1);
        due("part(1) beside it", scattered.part(1), 2);
    }

    private static void promise6Parts() {
        LevelForests x = new LevelForests();
        for (int u = 0; u < POINTS - 1; u++) {
            due("parts() before link " + u, x.parts(), POINTS - u);
            x.link(u, u + 1);
        }
        due("parts() of one part", x.parts(), 1);
        x.link(0, 11);
        due("parts() of a ring", x.parts(), 1);
        x.cut(3, 4);
        due("parts() of a ring cut once", x.parts(), 1);
        x.cut(8, 9);
        due("parts() of a ring cut twice", x.parts(), 2);
        due("parts() of two triangles", twoTriangles().parts(), 6);
    }

    private static void promise7IsEdge() {
        LevelForests x = twoTriangles();
        due("isEdge(2, 3)", x.isEdge(2, 3), true);
        due("isEdge(3, 2)", x.isEdge(3, 2), true);
        due("isEdge(0, 3), connected alone", x.isEdge(0, 3), false);
        due("isEdge(8, 9)", x.isEdge(8, 9), false);
        for (int u = 0; u < POINTS; u++) {
            due("isEdge(" + u + ", " + u + ")", x.isEdge(u, u), false);
        }
        for (int bad : OUTSIDE) {
            for (int u = 0; u < POINTS; u++) {
                due("isEdge(" + bad + ", " + u + ")", x.isEdge(bad, u), false);
                due("isEdge(" + u + ", " + bad + ")", x.isEdge(u, bad), false);
            }
            due("isEdge(" + bad + ", " + bad + ")", x.isEdge(bad, bad), false);
        }
    }

    private static void promise8IsBridge() {
        LevelForests x = twoTriangles();
        due("isBridge(2, 3)", x.isBridge(2, 3), true);
        due("isBridge(3, 2)", x.isBridge(3, 2), true);
        due("isBridge(6, 7)", x.isBridge(6, 7), true);
        due("isBridge(0, 1), in a ring", x.isBridge(0, 1), false);
        due("isBridge(0, 5), no edge", x.isBridge(0, 5), false);
        due("isBridge(8, 9), no edge and not connected", x.isBridge(8, 9), false);
        dueCounts("isBridge changes nothing", x, 8, 6, 2, 6);
        due("isEdge(2, 3) after isBridge", x.isEdge(2, 3), true);
        due("isEdge(3, 2) after isBridge", x.isEdge(3, 2), true);
        x.link(0, 5);
        due("isBridge(2, 3) with a way round", x.isBridge(2, 3), false);
        x.cut(0, 5);
        x.cut(0, 1);
        due("isBridge(0, 2) after cut(0, 1)", x.isBridge(0, 2), true);
        for (int u = 0; u < POINTS; u++) {
            due("isBridge(" + u + ", " + u + ")", x.isBridge(u, u), false);
        }
        for (int bad : OUTSIDE) {
            for (int u = 0; u < POINTS; u++) {
                due("isBridge(" + bad + ", " + u + ")", x.isBridge(bad, u), false);
                due("isBridge(" + u + ", " + bad + ")", x.isBridge(u, bad), false);
            }
            due("isBridge(" + bad + ", " + bad + ")", x.isBridge(bad, bad), false);
        }
        dueCounts("isBridge of wrong inputs changes nothing", x, 7, 6, 1, 6);
    }

    private static void promise9Edges() {
        LevelForests x = twoTriangles();
        due("edges()", x.edges(), 8);
        x.link(0, 1);
        due("edges() after a link that was there", x.edges(), 8);
        x.cut(0, 1);
        due("edges() after a cut", x.edges(), 7);
        x.cut(0, 1);
        due("edges() after a cut of none", x.edges(), 7);
        x.isolate(3);
        due("edges() after isolate(3)", x.edges(), 4);
        due("edges() when full", fullOne().edges(), 30);
    }

    private static void promise10Spare() {
        LevelForests x = twoTriangles();
        due("spare() of two rings", x.spare(), 2);
        x.link(0, 5);
        due("spare() with a way round", x.spare(), 3);
        x.cut(0, 1);
        due("spare() after a cut", x.spare(), 2);
        due("spare() of a path", path().spare(), 0);
        due("spare() when full", fullOne().spare(), 21);
        due("spare() changes nothing", x.edges(), 8);
    }

    private static void promise11Isolate() {
        LevelForests x = twoTriangles();
        due("isolate(8), alone already", x.isolate(8), 0);
        due("isolate(0), in a ring", x.isolate(0), 1);
        dueCounts("after isolate(0)", x, 6, 7, 1, 5);
        due("isolate(0) again", x.isolate(0), 0);
        due("isolate(3), between two parts", x.isolate(3), 2);
        dueCounts("after isolate(3)", x, 3, 9, 0, 2);
        due("isolate(7)", x.isolate(7), 1);
        due("part(6) after isolate(7)", x.part(6), 64);
        for (int bad : OUTSIDE) {
            due("isolate(" + bad + ")", x.isolate(bad), LevelForests.BAD);
        }
        dueCounts("after wrong isolates", x, 2, 10, 0, 2);
        for (int middle = 0; middle < POINTS; middle++) {
            LevelForests star = new LevelForests();
            for (int v = 0; v < POINTS; v++) {
                star.link(middle, v);
            }
            due("isolate(" + middle + ") of a star", star.isolate(middle), 11);
            dueCounts("after isolate of a star", star, 0, 12, 0, 1);
        }
    }

    private static void promise12Greatest() {
        LevelForests x = new LevelForests();
        due("greatest() of points alone", x.greatest(), 1);
        x.link(10, 11);
        due("greatest() of the last two", x.greatest(), 2);
        x.link(0, 1);
        due("greatest() of two equal parts", x.greatest(), 2);
        x.link(9, 11);
        due("greatest() of three", x.greatest(), 3);
        x.isolate(11);
        due("greatest() after isolate", x.greatest(), 2);
        due("greatest() of all", path().greatest(), 12);
        due("greatest() of two triangles", twoTriangles().greatest(), 6);
    }

    private static void promise13OrderAndLimits() {
        due("BAD", LevelForests.BAD, -1);
        due("FULL", LevelForests.FULL, -2);
        LevelForests x = fullOne();
        dueCounts("full", x, 30, 3, 21, 8);
        for (int bad : OUTSIDE) {
            due("full: link(" + bad + ", 0)", x.link(bad, 0), LevelForests.BAD);
            due("full: link(0, " + bad + ")", x.link(0, bad), LevelForests.BAD);
        }
        due("full: link(4, 4)", x.link(4, 4), LevelForests.BAD);
        due("full: link(11, 11)", x.link(11, 11), LevelForests.BAD);
        due("full: link(0, 7), there", x.link(0, 7), 0);
        due("full: link(10, 9), there", x.link(10, 9), 0);
        due("full: link(8, 10), inside a part", x.link(8, 10), LevelForests.FULL);
        due("full: link(0, 11), of two parts", x.link(0, 11), LevelForests.FULL);
        due("full: isEdge(0, 11)", x.isEdge(0, 11), false);
        dueCounts("after links when full", x, 30, 3, 21, 8);
        due("full: cut(0, 11), not there", x.cut(0, 11), 0);
        due("full: cut(7, 0)", x.cut(7, 0), 1);
        due("29 edges: link(11, 0)", x.link(11, 0), 2);
        due("30 edges: link(0, 7)", x.link(0, 7), LevelForests.FULL);
        due("full: isolate(0)", x.isolate(0), 2);
        dueCounts("full, then isolate(0)", x, 23, 4, 15, 7);
    }

    private static void objectsAreApart() {
        LevelForests x = new LevelForests();
        LevelForests y = new LevelForests();
        x.link(0, 1);
        due("another object's edges()", y.edges(), 0);
        due("another object's link(0, 1)", y.link(0, 1), 2);
    }
}
