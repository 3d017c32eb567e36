import java.util.ArrayList;
import java.util.Arrays;
import java.util.List;

/**
 * Long mixed runs, runs that fill the graph and empty it again and again, and every graph on a few
 * points, against a model that holds the graph in another way: a list of edges, and labels that are
 * spread over it until none changes. The model answers what an edge's going does by counting parts
 * with and without it.
 */
public final class ModelTest {
    private static final int POINTS = 12;
    private static final int CALLS = 512;
    private static final int RUNS = 1500;
    private static final int WAVES = 500;
    private static final int MOST_EDGES = 30;
    private static final int SHOWN = 20;

    private static int wrong = 0;
    private static long seed = 20261115L;

    private final List<int[]> edges = new ArrayList<>();

    public static void main(String[] args) {
        for (int run = 0; run < RUNS && wrong < SHOWN; run++) {
            oneRun(run);
        }
        for (int run = 0; run < WAVES && wrong < SHOWN; run++) {
            oneRunOfWaves(run);
        }
        everyGraphOn(0, 3, 4, 7, 11);
        everyGraphOn(11, 2, 10, 1, 6);
        System.out.println(wrong == 0 ? "all answers are as due" : wrong + " answers are not as due");
        if (wrong != 0) {
            System.exit(1);
        }
    }

    // A generator of our own with a fixed start, so that every run of the test makes the same calls.
    private static int next(int bound) {
        seed = seed * 6364136223846793005L + 1442695040888963407L;
        return (int) ((seed >>> 33) % bound);
    }

    private static int anyPoint() {
        return next(40) == 0 ? next(80) - 40 : next(POINTS);
    }

    private static void oneRun(int run) {
        LevelForests x = new LevelForests();
        ModelTest model = new ModelTest();
        // Some runs fill the graph to its limit, others keep it thin, where bridges are many.
        int links = 1 + next(12);
        for (int call = 0; call < CALLS; call++) {
            int u = anyPoint();
            int v = anyPoint();
            int kind = next(links + 11);
            String told = "run " + run + ", call " + call + ": ";
            switch (kind) {
                case 0 -> due(told + "connected(" + u + ", " + v + ")", x.connected(u, v), model.connected(u, v));
                case 1 -> due(told + "part(" + u + ")", x.part(u), model.part(u));
                case 2 -> due(told + "parts()", x.parts(), model.parts());
                case 3 -> due(told + "isEdge(" + u + ", " + v + ")", x.isEdge(u, v), model.find(u, v) >= 0);
                case 4 -> due(told + "isBridge(" + u + ", " + v + ")", x.isBridge(u, v), model.isBridge(u, v));
                case 5 -> due(told + "edges()", x.edges(), model.edges.size());
                case 6 -> due(told + "spare()", x.spare(), model.spare());
                case 7 -> due(told + "greatest()", x.greatest(), model.greatest());
                case 8, 9 -> due(told + "cut(" + u + ", " + v + ")", x.cut(u, v), model.cut(u, v));
                case 10 -> {
                    if (next(4) == 0) {
                        due(told + "isolate(" + u + ")", x.isolate(u), model.isolate(u));
                    } else {
                        askOrCutOne(told, x, model);
                    }
                }
                default -> due(told + "link(" + u + ", " + v + ")", x.link(u, v), model.link(u, v));
            }
        }
    }

    // Points taken blindly seldom meet an edge; this takes one that is there. One call alone, as
    // an object's answers are free after its 512th.
    private static void askOrCutOne(String told, LevelForests x, ModelTest model) {
        if (model.edges.isEmpty()) {
            return;
        }
        int[] edge = model.edges.get(next(model.edges.size()));
        int u = edge[0];
        int v = edge[1];
        if (next(2) == 0) {
            due(told + "isBridge(" + u + ", " + v + ")", x.isBridge(u, v), model.isBridge(u, v));
        } else {
            due(told + "cut(" + v + ", " + u + ")", x.cut(v, u), model.cut(v, u));
        }
    }

    // Fills the graph and empties it in another order, with a look at it after each change: a forest
    // that an object keeps beside its edges has to find a way round for edge after edge.
    private static void oneRunOfWaves(int run) {
        LevelForests x = new LevelForests();
        ModelTest model = new ModelTest();
        boolean filling = true;
        for (int calls = 0; calls + 2 <= CALLS; calls += 2) {
            String told = "wave run " + run + ", call " + calls + ": ";
            if (filling) {
                int u = next(POINTS);
                int v = (u + 1 + next(POINTS - 1)) % POINTS;
                due(told + "link(" + u + ", " + v + ")", x.link(u, v), model.link(u, v));
            } else {
                int[] edge = model.edges.get(next(model.edges.size()));
                int u = edge[0];
                int v = edge[1];
                due(told + "cut(" + u + ", " + v + ")", x.cut(u, v), model.cut(u, v));
            }
            dueOfOne(told + "after it, ", x, model, next(7), next(POINTS), next(POINTS));
            if (model.edges.size() == MOST_EDGES) {
                filling = false;
            } else if (model.edges.isEmpty()) {
                filling = true;
            }
        }
    }

    private static void dueOfOne(String told, LevelForests x, ModelTest model, int kind, int u, int v) {
        switch (kind) {
            case 0 -> due(told + "connected(" + u + ", " + v + ")", x.connected(u, v), model.connected(u, v));
            case 1 -> due(told + "part(" + u + ")", x.part(u), model.part(u));
            case 2 -> due(told + "parts()", x.parts(), model.parts());
            case 3 -> due(told + "isBridge(" + u + ", " + v + ")", x.isBridge(u, v), model.isBridge(u, v));
            case 4 -> due(told + "spare()", x.spare(), model.spare());
            case 5 -> due(told + "greatest()", x.greatest(), model.greatest());
            default -> due(told + "edges()", x.edges(), model.edges.size());
        }
    }

    /** Every set of edges between these points; on each, every call on two of them. */
    private static void everyGraphOn(int... points) {
        List<int[]> pairs = new ArrayList<>();
        for (int i = 0; i < points.length; i++) {
            for (int j = i + 1; j < points.length; j++) {
                pairs.add(new int[] {points[i], points[j]});
            }
        }
        for (int set = 0; set < 1 << pairs.size() && wrong < SHOWN; set++) {
            ModelTest model = new ModelTest();
            for (int i = 0; i < pairs.size(); i++) {
                if ((set >> i & 1) == 1) {
                    model.edges.add(pairs.get(i));
                }
            }
            dueOfGraph(model, points);
        }
    }

    private static void dueOfGraph(ModelTest model, int[] points) {
        String told = "edges " + Arrays.deepToString(model.edges.toArray()) + ": ";
        LevelForests x = model.made();
        dueOfOne(told, x, model, 2, 0, 0);
        dueOfOne(told, x, model, 4, 0, 0);
        dueOfOne(told, x, model, 5, 0, 0);
        dueOfOne(told, x, model, 6, 0, 0);
        for (int u : points) {
            dueOfOne(told, x, model, 1, u, 0);
            due(told + "isolate(" + u + ")", model.made().isolate(u), model.copy().isolate(u));
            for (int v : points) {
                String call = "(" + u + ", " + v + ")";
                dueOfOne(told, x, model, 0, u, v);
                dueOfOne(told, x, model, 3, u, v);
                due(told + "isEdge" + call, x.isEdge(u, v), model.find(u, v) >= 0);
                due(told + "link" + call, model.made().link(u, v), model.copy().link(u, v));
                due(told + "cut" + call, model.made().cut(u, v), model.copy().cut(u, v));
            }
        }
    }

    private ModelTest copy() {
        ModelTest same = new ModelTest();
        same.edges.addAll(edges);
        return same;
    }

    private LevelForests made() {
        LevelForests x = new LevelForests();
        for (int[] e : edges) {
            x.link(e[0], e[1]);
        }
        return x;
    }

    private static void due(String what, int got, int want) {
        if (got != want) {
            wrong++;
            System.out.println(what + " answered " + got + ", due is " + want);
        }
    }

    private static void due(String what, boolean got, boolean want) {
        due(what, got ? 1 : 0, want ? 1 : 0);
    }

    private static boolean outside(int u) {
        return u < 0 || u > 11;
    }

    private int find(int u, int v) {
        for (int i = 0; i < edges.size(); i++) {
            int[] e = edges.get(i);
            if (e[0] == u && e[1] == v || e[0] == v && e[1] == u) {
                return i;
            }
        }
        return -1;
    }

    private int[] labels() {
        int[] label = new int[POINTS];
        for (int u = 0; u < POINTS; u++) {
            label[u] = u;
        }
        boolean changed = true;
        while (changed) {
            changed = false;
            for (int[] e : edges) {
                int low = Math.min(label[e[0]], label[e[1]]);
                changed |= label[e[0]] != low || label[e[1]] != low;
                label[e[0]] = low;
                label[e[1]] = low;
            }
        }
        return label;
    }

    private int parts() {
        return (int) Arrays.stream(labels()).distinct().count();
    }

    private int link(int u, int v) {
        if (outside(u) || outside(v) || u == v) {
            return -1;
        }
        if (find(u, v) >= 0) {
            return 0;
        }
        if (edges.size() == MOST_EDGES) {
            return -2;
        }
        int before = parts();
        edges.add(new int[] {u, v});
        return parts() < before ? 2 : 1;
    }

    private int cut(int u, int v) {
        if (outside(u) || outside(v) || u == v) {
            return -1;
        }
        int i = find(u, v);
        if (i < 0) {
            return 0;
        }
        int before = parts();
        edges.remove(i);
        return parts() > before ? 2 : 1;
    }

    private boolean connected(int u, int v) {
        if (outside(u) || outside(v)) {
            return false;
        }
        int[] label = labels();
        return label[u] == label[v];
    }

    private int part(int u) {
        if (outside(u)) {
            return -1;
        }
        int set = 0;
        for (int v = 0; v < POINTS; v++) {
            set |= connected(u, v) ? 1 << v : 0;
        }
        return set;
    }

    private boolean isBridge(int u, int v) {
        int i = find(u, v);
        if (i < 0) {
            return false;
        }
        int before = parts();
        int[] edge = edges.remove(i);
        int after = parts();
        edges.add(edge);
        return after > before;
    }

    // Takes edges away one after another, as the document's words do, and puts them back.
    private int spare() {
        List<int[]> kept = new ArrayList<>(edges);
        int before = parts();
        int taken = 0;
        for (int[] edge : kept) {
            edges.remove(edge);
            if (parts() == before) {
                taken++;
            } else {
                edges.add(edge);
            }
        }
        edges.clear();
        edges.addAll(kept);
        return taken;
    }

    private int isolate(int u) {
        if (outside(u)) {
            return -1;
        }
        int before = parts();
        edges.removeIf(e -> e[0] == u || e[1] == u);
        return parts() - before;
    }

    private int greatest() {
        int most = 0;
        for (int u = 0; u < POINTS; u++) {
            most = Math.max(most, Integer.bitCount(part(u)));
        }
        return most;
    }
}
