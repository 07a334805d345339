/** The same run of numbers every time, for networks of many shapes. */
final class Numbers {
    private long state;

    Numbers(long seed) {
        state = seed * 0x9E3779B97F4A7C15L + 1;
    }

    /** A number from low to high, both possible. */
    int from(int low, int high) {
        state = state * 6364136223846793005L + 1442695040888963407L;
        return low + (int) ((state >>> 33) % (high - low + 1));
    }

    /** A network with so many nodes and arcs and the given greatest capacity. */
    NetworkSimplex network(int nodes, int arcs, int maxCap, int minCost, int maxCost) {
        NetworkSimplex x = new NetworkSimplex(nodes);
        // Bounded, so that a network which takes no arc fails a test and does not hold it up.
        for (int tries = 0; tries < 10000 && x.getArcCount() < arcs; tries++) {
            x.addArc(from(0, nodes - 1), from(0, nodes - 1), from(0, maxCap), from(minCost, maxCost));
        }
        Check.due("arcs of a network with room for them", x.getArcCount(), arcs);
        return x;
    }

    /** Moves supply between pairs of nodes, so that the sum stays 0. */
    void balance(NetworkSimplex x, int pairs, int most) {
        for (int i = 0; i < pairs; i++) {
            int giver = from(0, x.getNodeCount() - 1);
            int taker = from(0, x.getNodeCount() - 1);
            int amount = from(0, most);
            int given = x.getSupply(giver) + amount;
            int taken = x.getSupply(taker) - amount;
            if (giver != taker && given <= NetworkSimplex.MAX_SUPPLY && taken >= NetworkSimplex.MIN_SUPPLY) {
                x.setSupply(giver, given);
                x.setSupply(taker, taken);
            }
        }
    }
}
