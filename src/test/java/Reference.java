/**
 * What a network's answers are due to be, by ways that the program does not go:
 * all node sets one by one for shortfall and witness, and for the cost either
 * all flows one by one or the cancelling of negative cycles.
 */
final class Reference {
    final int nodes;
    final int[] supply;
    final int arcs;
    final int[] tail;
    final int[] head;
    final int[] cap;
    final int[] cost;

    Reference(NetworkSimplex x) {
        nodes = x.getNodeCount();
        supply = new int[nodes];
        for (int v = 0; v < nodes; v++) {
            supply[v] = x.getSupply(v);
        }
        arcs = x.getArcCount();
        tail = new int[arcs];
        head = new int[arcs];
        cap = new int[arcs];
        cost = new int[arcs];
        for (int k = 0; k < arcs; k++) {
            tail[k] = x.getArc(k, NetworkSimplex.FIELD_TAIL);
            head[k] = x.getArc(k, NetworkSimplex.FIELD_HEAD);
            cap[k] = x.getArc(k, NetworkSimplex.FIELD_CAP);
            cost[k] = x.getArc(k, NetworkSimplex.FIELD_COST);
        }
    }

    /** The result in the words of Check.result, with every node set looked at. */
    String result() {
        if (supplySum() != 0) {
            return "status 3 cost 0 shortfall 0 witness 0:";
        }
        int[] best = worstSet();
        if (best[0] == 0) {
            return "status 1 cost " + cycleCost() + " shortfall 0 witness 0:";
        }
        StringBuilder text = new StringBuilder("status 2 cost 0 shortfall " + best[0]
            + " witness " + Integer.bitCount(best[1]) + ":");
        for (int v = 0; v < nodes; v++) {
            if ((best[1] >> v & 1) != 0) {
                text.append(' ').append(v);
            }
        }
        return text.toString();
    }

    int supplySum() {
        int sum = 0;
        for (int b : supply) {
            sum += b;
        }
        return sum;
    }

    int violation(int set) {
        int sum = 0;
        for (int v = 0; v < nodes; v++) {
            if ((set >> v & 1) != 0) {
                sum -= supply[v];
            }
        }
        for (int k = 0; k < arcs; k++) {
            if ((set >> head[k] & 1) != 0 && (set >> tail[k] & 1) == 0) {
                sum -= cap[k];
            }
        }
        return sum;
    }

    /** The greatest violation and the intersection of all sets that reach it. */
    int[] worstSet() {
        int[][] matrix = new int[nodes][nodes];
        for (int k = 0; k < arcs; k++) {
            matrix[tail[k]][head[k]] += cap[k];
        }
        int set = 0;
        int value = 0;
        int greatest = 0;
        int common = 0;
        // In Gray code's order each set differs from the last by one node.
        for (int i = 1; i < 1 << nodes; i++) {
            int v = Integer.numberOfTrailingZeros(i);
            int change = -supply[v];
            for (int u = 0; u < nodes; u++) {
                if (u != v) {
                    change += (set >> u & 1) != 0 ? matrix[v][u] : -matrix[u][v];
                }
            }
            value += (set >> v & 1) == 0 ? change : -change;
            set ^= 1 << v;
            if (value > greatest) {
                greatest = value;
                common = set;
            } else if (value == greatest) {
                common &= set;
            }
        }
        Check.due("reference: violation of its own set", violation(common), greatest);
        return new int[] {greatest, common};
    }

    /** The least cost of all flows, each tried; null if none is feasible. */
    Integer bruteCost() {
        int[] flow = new int[arcs];
        Integer least = null;
        while (true) {
            if (isFeasible(flow)) {
                int sum = costOf(flow);
                if (least == null || sum < least) {
                    least = sum;
                }
            }
            int k = 0;
            while (k < arcs && flow[k] == cap[k]) {
                flow[k] = 0;
                k++;
            }
            if (k == arcs) {
                return least;
            }
            flow[k]++;
        }
    }

    /** The least cost, given that a feasible flow exists. */
    int cycleCost() {
        int[] flow = feasibleFlow();
        while (cancelNegativeCycle(flow)) {
            continue;
        }
        return costOf(flow);
    }

    private boolean isFeasible(int[] flow) {
        int[] out = new int[nodes];
        for (int k = 0; k < arcs; k++) {
            out[tail[k]] += flow[k];
            out[head[k]] -= flow[k];
        }
        return java.util.Arrays.equals(out, supply);
    }

    private int costOf(int[] flow) {
        int sum = 0;
        for (int k = 0; k < arcs; k++) {
            sum += cost[k] * flow[k];
        }
        return sum;
    }

    private int[] feasibleFlow() {
        int[] flow = new int[arcs];
        int[] left = supply.clone();
        for (int v = 0; v < nodes; v++) {
            while (left[v] > 0) {
                if (!sendOne(flow, left, v)) {
                    throw new IllegalStateException("no feasible flow");
                }
            }
        }
        if (!isFeasible(flow)) {
            throw new IllegalStateException("the flow found is not feasible");
        }
        return flow;
    }

    private boolean sendOne(int[] flow, int[] left, int start) {
        int[] by = new int[nodes];
        boolean[] seen = new boolean[nodes];
        java.util.ArrayDeque<Integer> queue = new java.util.ArrayDeque<>();
        queue.add(start);
        seen[start] = true;
        while (!queue.isEmpty()) {
            int v = queue.remove();
            if (left[v] < 0) {
                left[v]++;
                left[start]--;
                while (v != start) {
                    int arc = by[v] >> 1;
                    boolean back = (by[v] & 1) != 0;
                    flow[arc] += back ? -1 : 1;
                    v = back ? head[arc] : tail[arc];
                }
                return true;
            }
            for (int k = 0; k < arcs; k++) {
                if (tail[k] == v && !seen[head[k]] && flow[k] < cap[k]) {
                    seen[head[k]] = true;
                    by[head[k]] = 2 * k;
                    queue.add(head[k]);
                }
                if (head[k] == v && !seen[tail[k]] && flow[k] > 0) {
                    seen[tail[k]] = true;
                    by[tail[k]] = 2 * k + 1;
                    queue.add(tail[k]);
                }
            }
        }
        return false;
    }

    private boolean cancelNegativeCycle(int[] flow) {
        int[] distance = new int[nodes];
        int[] by = new int[nodes];
        java.util.Arrays.fill(by, -1);
        int last = -1;
        for (int round = 0; round <= nodes; round++) {
            last = -1;
            for (int r = 0; r < 2 * arcs; r++) {
                int k = r >> 1;
                boolean back = (r & 1) != 0;
                int from = back ? head[k] : tail[k];
                int to = back ? tail[k] : head[k];
                int room = back ? flow[k] : cap[k] - flow[k];
                int length = back ? -cost[k] : cost[k];
                if (room > 0 && distance[from] + length < distance[to]) {
                    distance[to] = distance[from] + length;
                    by[to] = r;
                    last = to;
                }
            }
        }
        if (last < 0) {
            return false;
        }
        for (int i = 0; i < nodes; i++) {
            last = before(by[last]);
        }
        int room = Integer.MAX_VALUE;
        int v = last;
        do {
            int k = by[v] >> 1;
            room = Math.min(room, (by[v] & 1) != 0 ? flow[k] : cap[k] - flow[k]);
            v = before(by[v]);
        } while (v != last);
        do {
            flow[by[v] >> 1] += (by[v] & 1) != 0 ? -room : room;
            v = before(by[v]);
        } while (v != last);
        return true;
    }

    private int before(int r) {
        return (r & 1) != 0 ? head[r >> 1] : tail[r >> 1];
    }
}
