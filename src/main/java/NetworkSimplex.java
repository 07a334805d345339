/**
 * The least cost of a feasible flow on a small network, or a shortfall and the
 * smallest node set that reaches it when no feasible flow exists.
 */
public final class NetworkSimplex {
    public static final int MIN_NODES = 2;
    public static final int MAX_NODES = 24;
    public static final int MAX_ARCS = 96;
    public static final int MIN_CAP = 0;
    public static final int MAX_CAP = 20;
    public static final int MIN_COST = -50;
    public static final int MAX_COST = 50;
    public static final int MIN_SUPPLY = -20;
    public static final int MAX_SUPPLY = 20;

    public static final int STATUS_NONE = 0;
    public static final int STATUS_OPTIMAL = 1;
    public static final int STATUS_INFEASIBLE = 2;
    public static final int STATUS_UNBALANCED = 3;

    public static final int FIELD_TAIL = 0;
    public static final int FIELD_HEAD = 1;
    public static final int FIELD_CAP = 2;
    public static final int FIELD_COST = 3;

    private static final int NONE = -1;

    // Longer than any path: a path has fewer than 24 arcs of length 50 at most.
    private static final int UNREACHED = 1000000;

    // Every push moves at least one of at most 24 * 20 + 96 * 20 units of excess.
    private static final int MAX_PUSHES = 1000000;

    private final int nodeCount;
    private final int[] supply = new int[MAX_NODES];

    private int arcCount = 0;
    private final int[] arcTail = new int[MAX_ARCS];
    private final int[] arcHead = new int[MAX_ARCS];
    private final int[] arcCap = new int[MAX_ARCS];
    private final int[] arcCost = new int[MAX_ARCS];

    private int status = STATUS_NONE;
    private int totalCost = 0;
    private int shortfall = 0;
    private final boolean[] witness = new boolean[MAX_NODES];

    // What a single solve works with; each solve fills these anew.
    private final int[] flow = new int[MAX_ARCS];
    private final int[] excess = new int[MAX_NODES];
    private final int[] distance = new int[MAX_NODES];
    private final int[] pathArc = new int[MAX_NODES];

    public NetworkSimplex(int nodes) {
        nodeCount = clamp(nodes, MIN_NODES, MAX_NODES);
    }

    public int addArc(int tail, int head, int cap, int cost) {
        if (arcCount == MAX_ARCS || !isNode(tail) || !isNode(head) || tail == head) {
            return NONE;
        }
        int arc = arcCount;
        arcTail[arc] = tail;
        arcHead[arc] = head;
        arcCap[arc] = clamp(cap, MIN_CAP, MAX_CAP);
        arcCost[arc] = clamp(cost, MIN_COST, MAX_COST);
        arcCount = arc + 1;
        reset();
        return arc;
    }

    public boolean setSupply(int node, int amount) {
        if (!isNode(node)) {
            return false;
        }
        supply[node] = clamp(amount, MIN_SUPPLY, MAX_SUPPLY);
        reset();
        return true;
    }

    public boolean setCapacity(int arc, int cap) {
        if (!isArc(arc)) {
            return false;
        }
        arcCap[arc] = clamp(cap, MIN_CAP, MAX_CAP);
        reset();
        return true;
    }

    public boolean setCost(int arc, int cost) {
        if (!isArc(arc)) {
            return false;
        }
        arcCost[arc] = clamp(cost, MIN_COST, MAX_COST);
        reset();
        return true;
    }

    public int solve() {
        reset();
        if (supplySum() != 0) {
            status = STATUS_UNBALANCED;
            return status;
        }
        startFlow();
        routeExcess();
        shortfall = unroutedExcess();
        if (shortfall > 0) {
            status = STATUS_INFEASIBLE;
            markWitness();
        } else {
            status = STATUS_OPTIMAL;
            totalCost = flowCost();
        }
        return status;
    }

    public int getStatus() {
        return status;
    }

    public int getTotalCost() {
        return totalCost;
    }

    public int getShortfall() {
        return shortfall;
    }

    public boolean inWitness(int node) {
        return isNode(node) && witness[node];
    }

    public int getWitnessSize() {
        int size = 0;
        for (int node = 0; node < nodeCount; node++) {
            if (witness[node]) {
                size++;
            }
        }
        return size;
    }

    public int getNodeCount() {
        return nodeCount;
    }

    public int getArcCount() {
        return arcCount;
    }

    public int getSupply(int node) {
        return isNode(node) ? supply[node] : 0;
    }

    public int getArc(int arc, int field) {
        if (!isArc(arc)) {
            return 0;
        }
        switch (field) {
            case FIELD_TAIL:
                return arcTail[arc];
            case FIELD_HEAD:
                return arcHead[arc];
            case FIELD_CAP:
                return arcCap[arc];
            case FIELD_COST:
                return arcCost[arc];
            default:
                return 0;
        }
    }

    private static int clamp(int value, int low, int high) {
        if (value < low) {
            return low;
        }
        return value > high ? high : value;
    }

    private static int smaller(int one, int other) {
        return one < other ? one : other;
    }

    private boolean isNode(int node) {
        return node >= 0 && node < nodeCount;
    }

    private boolean isArc(int arc) {
        return arc >= 0 && arc < arcCount;
    }

    private void reset() {
        status = STATUS_NONE;
        totalCost = 0;
        shortfall = 0;
        for (int node = 0; node < nodeCount; node++) {
            witness[node] = false;
        }
    }

    private int supplySum() {
        int sum = 0;
        for (int node = 0; node < nodeCount; node++) {
            sum += supply[node];
        }
        return sum;
    }

    // Arcs of negative cost start full, so that no residual arc has a negative
    // cost. Pushing along shortest paths then never makes a negative cycle, and
    // a flow without one is the cheapest for the excess that it has routed.
    private void startFlow() {
        for (int node = 0; node < nodeCount; node++) {
            excess[node] = supply[node];
        }
        for (int arc = 0; arc < arcCount; arc++) {
            flow[arc] = arcCost[arc] < 0 ? arcCap[arc] : 0;
            excess[arcTail[arc]] -= flow[arc];
            excess[arcHead[arc]] += flow[arc];
        }
    }

    private void routeExcess() {
        for (int push = 0; push < MAX_PUSHES; push++) {
            findShortestPaths();
            int target = reachedDeficit();
            if (target == NONE) {
                break;
            }
            pushTo(target);
        }
    }

    // All nodes with excess are sources at once: a shortest path to a deficit may
    // then come from any of them, and which deficit it goes to makes no difference.
    private void findShortestPaths() {
        for (int node = 0; node < nodeCount; node++) {
            distance[node] = excess[node] > 0 ? 0 : UNREACHED;
            pathArc[node] = NONE;
        }
        boolean changed = true;
        for (int round = 0; changed && round < nodeCount; round++) {
            changed = relaxAllArcs();
        }
    }

    private boolean relaxAllArcs() {
        boolean changed = false;
        for (int arc = 0; arc < arcCount; arc++) {
            if (flow[arc] < arcCap[arc] && relax(arc, arcTail[arc], arcHead[arc], arcCost[arc])) {
                changed = true;
            }
            if (flow[arc] > 0 && relax(arc, arcHead[arc], arcTail[arc], -arcCost[arc])) {
                changed = true;
            }
        }
        return changed;
    }

    private boolean relax(int arc, int from, int to, int length) {
        if (distance[from] == UNREACHED || distance[from] + length >= distance[to]) {
            return false;
        }
        distance[to] = distance[from] + length;
        pathArc[to] = arc;
        return true;
    }

    private int reachedDeficit() {
        for (int node = 0; node < nodeCount; node++) {
            if (excess[node] < 0 && distance[node] != UNREACHED) {
                return node;
            }
        }
        return NONE;
    }

    private void pushTo(int target) {
        int amount = -excess[target];
        int node = target;
        for (int step = 0; step < nodeCount && pathArc[node] != NONE; step++) {
            int room = pathRoom(node);
            amount = smaller(amount, room);
            node = pathPrevious(node);
        }
        amount = smaller(amount, excess[node]);
        excess[node] -= amount;
        excess[target] += amount;
        changePathFlow(target, amount);
    }

    // No arc has the same tail and head, so a path that comes to a node by an
    // arc runs along the arc if the node is its head, and else against it.
    private int pathPrevious(int node) {
        int arc = pathArc[node];
        return arcHead[arc] == node ? arcTail[arc] : arcHead[arc];
    }

    private int pathRoom(int node) {
        int arc = pathArc[node];
        return arcHead[arc] == node ? arcCap[arc] - flow[arc] : flow[arc];
    }

    private void changePathFlow(int target, int amount) {
        int node = target;
        for (int step = 0; step < nodeCount && pathArc[node] != NONE; step++) {
            int arc = pathArc[node];
            flow[arc] += arcHead[arc] == node ? amount : -amount;
            node = pathPrevious(node);
        }
    }

    private int unroutedExcess() {
        int sum = 0;
        for (int node = 0; node < nodeCount; node++) {
            if (excess[node] > 0) {
                sum += excess[node];
            }
        }
        return sum;
    }

    // With no path left from excess to deficit, every set of greatest violation
    // holds all nodes that can still reach a deficit; those alone are such a set.
    private void markWitness() {
        for (int node = 0; node < nodeCount; node++) {
            witness[node] = excess[node] < 0;
        }
        boolean grown = true;
        for (int round = 0; grown && round < nodeCount; round++) {
            grown = growWitness();
        }
    }

    private boolean growWitness() {
        boolean grown = false;
        for (int arc = 0; arc < arcCount; arc++) {
            int tail = arcTail[arc];
            int head = arcHead[arc];
            if (flow[arc] < arcCap[arc] && witness[head] && !witness[tail]) {
                witness[tail] = true;
                grown = true;
            }
            if (flow[arc] > 0 && witness[tail] && !witness[head]) {
                witness[head] = true;
                grown = true;
            }
        }
        return grown;
    }

    private int flowCost() {
        int sum = 0;
        for (int arc = 0; arc < arcCount; arc++) {
            sum += arcCost[arc] * flow[arc];
        }
        return sum;
    }
}
