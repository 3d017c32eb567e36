/** Connections in a graph whose edges come and go. */
public final class LevelForests {
    public static final int BAD = -1;
    public static final int FULL = -2;

    private static final int POINTS = 12;
    private static final int MOST_EDGES = 30;

    // The neighbours of each point, as a set. An edge stands in the sets of both its ends; this is
    // the whole state, so that nothing counted beside it can fall out of step with it.
    private final int[] neighbours = new int[POINTS];

    public LevelForests() {
    }

    public int link(int u, int v) {
        if (!canBeEdge(u, v)) {
            return BAD;
        }
        if (hasEdge(u, v)) {
            return 0;
        }
        if (countEdges() >= MOST_EDGES) {
            return FULL;
        }
        boolean wereJoined = areJoined(u, v);
        addEdge(u, v);
        return wereJoined ? 1 : 2;
    }

    public int cut(int u, int v) {
        if (!canBeEdge(u, v)) {
            return BAD;
        }
        if (!hasEdge(u, v)) {
            return 0;
        }
        removeEdge(u, v);
        return areJoined(u, v) ? 1 : 2;
    }

    public boolean connected(int u, int v) {
        return isPoint(u) && isPoint(v) && areJoined(u, v);
    }

    public int part(int u) {
        return isPoint(u) ? reachable(u) : BAD;
    }

    public int parts() {
        return countParts();
    }

    public boolean isEdge(int u, int v) {
        return canBeEdge(u, v) && hasEdge(u, v);
    }

    public boolean isBridge(int u, int v) {
        if (!canBeEdge(u, v) || !hasEdge(u, v)) {
            return false;
        }
        removeEdge(u, v);
        boolean stillJoined = areJoined(u, v);
        addEdge(u, v);
        return !stillJoined;
    }

    public int edges() {
        return countEdges();
    }

    public int spare() {
        // A part of n points stays whole with n - 1 edges and no fewer, so all the parts together
        // need POINTS minus the number of parts.
        int needed = POINTS - countParts();
        return countEdges() - needed;
    }

    public int isolate(int u) {
        if (!isPoint(u)) {
            return BAD;
        }
        int before = countParts();
        for (int v = 0; v < POINTS; v++) {
            if (hasEdge(u, v)) {
                removeEdge(u, v);
            }
        }
        return countParts() - before;
    }

    public int greatest() {
        int most = 0;
        for (int u = 0; u < POINTS; u++) {
            int reached = reachable(u);
            int size = sizeOf(reached);
            if (size > most) {
                most = size;
            }
        }
        return most;
    }

    private static boolean isPoint(int u) {
        return u >= 0 && u < POINTS;
    }

    private static boolean canBeEdge(int u, int v) {
        return isPoint(u) && isPoint(v) && u != v;
    }

    private static boolean holds(int set, int u) {
        return (set >> u & 1) != 0;
    }

    private static int sizeOf(int set) {
        int size = 0;
        for (int u = 0; u < POINTS; u++) {
            if (holds(set, u)) {
                size++;
            }
        }
        return size;
    }

    // The methods below are handed points alone: the public ones look at their arguments first.

    private boolean hasEdge(int u, int v) {
        return holds(neighbours[u], v);
    }

    private void addEdge(int u, int v) {
        neighbours[u] |= 1 << v;
        neighbours[v] |= 1 << u;
    }

    private void removeEdge(int u, int v) {
        neighbours[u] &= ~(1 << v);
        neighbours[v] &= ~(1 << u);
    }

    private int countEdges() {
        int ends = 0;
        for (int u = 0; u < POINTS; u++) {
            ends += sizeOf(neighbours[u]);
        }
        return ends / 2;
    }

    private int reachable(int start) {
        int reached = 1 << start;
        // Each round goes at least one edge further, and no shortest way has POINTS edges.
        for (int round = 1; round < POINTS; round++) {
            for (int u = 0; u < POINTS; u++) {
                if (holds(reached, u)) {
                    reached |= neighbours[u];
                }
            }
        }
        return reached;
    }

    private boolean areJoined(int u, int v) {
        int reached = reachable(u);
        return holds(reached, v);
    }

    private int countParts() {
        int seen = 0;
        int count = 0;
        for (int u = 0; u < POINTS; u++) {
            if (!holds(seen, u)) {
                seen |= reachable(u);
                count++;
            }
        }
        return count;
    }
}
