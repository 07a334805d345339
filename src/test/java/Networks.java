/** Networks at the far ends of what the document allows. */
final class Networks {
    private Networks() {
    }

    /** Twelve nodes that give, then twelve that take, and no arcs. */
    static NetworkSimplex halves(int given, int taken) {
        NetworkSimplex x = new NetworkSimplex(24);
        for (int v = 0; v < 12; v++) {
            x.setSupply(v, given);
            x.setSupply(12 + v, taken);
        }
        return x;
    }

    /**
     * 96 arcs that all must be full. Ten ways lead from node i to node 10 + i, each by single
     * steps; four of them skip a node, so that 100 steps become 96. Every way crosses each cut
     * between early and late nodes once, and no arc leads back: the cut's capacity is just what
     * the supplies before it must send.
     */
    static NetworkSimplex dearest(int cap, int cost) {
        NetworkSimplex x = new NetworkSimplex(24);
        for (int way = 0; way < 10; way++) {
            x.setSupply(way, 20);
            x.setSupply(10 + way, -20);
            int at = way;
            if (way < 4) {
                x.addArc(at, at + 2, cap, cost);
                at += 2;
            }
            while (at < 10 + way) {
                x.addArc(at, at + 1, cap, cost);
                at++;
            }
        }
        Check.due("arcs of the dearest network", x.getArcCount(), 96);
        return x;
    }

    /** A line through all nodes, each arc of the given capacity and cost. */
    static NetworkSimplex line(int nodes, int cap, int cost) {
        NetworkSimplex x = new NetworkSimplex(nodes);
        for (int v = 0; v + 1 < nodes; v++) {
            x.addArc(v, v + 1, cap, cost);
        }
        return x;
    }

    /** The same line with its arcs added from the last to the first. */
    static NetworkSimplex lineFromItsEnd(int nodes, int cap, int cost) {
        NetworkSimplex x = new NetworkSimplex(nodes);
        for (int v = nodes - 2; v >= 0; v--) {
            x.addArc(v, v + 1, cap, cost);
        }
        return x;
    }

    /** A line and the arc from its last node to its first. */
    static NetworkSimplex cycle(int nodes, int cap, int cost) {
        NetworkSimplex x = line(nodes, cap, cost);
        x.addArc(nodes - 1, 0, cap, cost);
        return x;
    }
}
