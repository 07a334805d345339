import java.util.ArrayList;
import java.util.List;

/** Objects of every status: without arcs, with two arcs, and with all 96. */
final class States {
    static final int CHANGES = 4;

    private States() {
    }

    /** New objects, four of each size, one of each status in the order of the status values. */
    static List<NetworkSimplex> all() {
        List<NetworkSimplex> objects = new ArrayList<>(withoutArcs());
        objects.addAll(withTwoArcs());
        objects.addAll(full());
        return objects;
    }

    static List<NetworkSimplex> withoutArcs() {
        List<NetworkSimplex> objects = new ArrayList<>();
        for (int nodes : new int[] {2, 24}) {
            objects.add(new NetworkSimplex(nodes));
            objects.add(solved(new NetworkSimplex(nodes), 0, 0));
            objects.add(solved(new NetworkSimplex(nodes), 20, -20));
            objects.add(solved(new NetworkSimplex(nodes), 0, -1));
        }
        return ofEachStatus(objects);
    }

    static List<NetworkSimplex> withTwoArcs() {
        List<NetworkSimplex> objects = new ArrayList<>();
        NetworkSimplex none = optimal();
        none.setSupply(1, 0);
        objects.add(none);
        objects.add(optimal());
        objects.add(infeasible());
        objects.add(unbalanced());
        return ofEachStatus(objects);
    }

    static List<NetworkSimplex> full() {
        List<NetworkSimplex> objects = new ArrayList<>();
        for (int nodes : new int[] {2, 24}) {
            objects.add(ring(nodes, 5));
            objects.add(solved(ring(nodes, 5), 3, -3));
            objects.add(solved(ring(nodes, 0), 20, -20));
            objects.add(solved(ring(nodes, 5), 20, -19));
        }
        return ofEachStatus(objects);
    }

    /** 96 arcs from each node to the next; those into the last node have the given capacity. */
    static NetworkSimplex ring(int nodes, int lastCap) {
        NetworkSimplex x = new NetworkSimplex(nodes);
        for (int k = 0; k < 96; k++) {
            int head = (k + 1) % nodes;
            x.addArc(k % nodes, head, head == nodes - 1 ? lastCap : 1 + k % 20, k % 7 - 4);
        }
        Check.due("arcs of a ring", x.getArcCount(), 96);
        return x;
    }

    private static NetworkSimplex solved(NetworkSimplex x, int first, int last) {
        x.setSupply(0, first);
        x.setSupply(x.getNodeCount() - 1, last);
        x.solve();
        return x;
    }

    private static List<NetworkSimplex> ofEachStatus(List<NetworkSimplex> objects) {
        for (int i = 0; i < objects.size(); i++) {
            Check.due("the status of object " + i, objects.get(i).getStatus(), i % 4);
        }
        return objects;
    }

    /** Three nodes, two arcs, optimal at cost 4 * 3 + 4 * -1 = 8. */
    static NetworkSimplex optimal() {
        NetworkSimplex x = new NetworkSimplex(3);
        x.addArc(0, 1, 6, 3);
        x.addArc(1, 2, 5, -1);
        x.setSupply(0, 4);
        x.setSupply(2, -4);
        x.solve();
        Check.due("optimal()", Check.result(x), "status 1 cost 8 shortfall 0 witness 0:");
        return x;
    }

    /** The same arcs asked for 7: the arc into node 2 lacks 2. */
    static NetworkSimplex infeasible() {
        NetworkSimplex x = optimal();
        x.setSupply(0, 7);
        x.setSupply(2, -7);
        x.solve();
        Check.due("infeasible()", Check.result(x), "status 2 cost 0 shortfall 2 witness 1: 2");
        return x;
    }

    static NetworkSimplex unbalanced() {
        NetworkSimplex x = optimal();
        x.setSupply(1, 1);
        x.solve();
        Check.due("unbalanced()", Check.result(x), "status 3 cost 0 shortfall 0 witness 0:");
        return x;
    }

    /** Makes one of the four kinds of change, such that no stored value becomes another. */
    static boolean storeTheSame(int change, NetworkSimplex x) {
        switch (change) {
            case 0:
                return x.addArc(0, 1, 0, 0) >= 0;
            case 1:
                return x.setSupply(0, x.getSupply(0));
            case 2:
                return x.setCapacity(0, x.getArc(0, NetworkSimplex.FIELD_CAP));
            default:
                return x.setCost(0, x.getArc(0, NetworkSimplex.FIELD_COST));
        }
    }

    /** Makes one of the four kinds of change, such that a stored value becomes another. */
    static boolean storeAnother(int change, NetworkSimplex x) {
        switch (change) {
            case 0:
                return x.addArc(1, 0, 3, 1) >= 0;
            case 1:
                return x.setSupply(0, x.getSupply(0) - 1);
            case 2:
                return x.setCapacity(0, x.getArc(0, NetworkSimplex.FIELD_CAP) - 1);
            default:
                return x.setCost(0, x.getArc(0, NetworkSimplex.FIELD_COST) + 1);
        }
    }

    /** Tries one of the four kinds of change with a number that names no node or arc. */
    static boolean tryRefused(int change, NetworkSimplex x) {
        switch (change) {
            case 0:
                return x.addArc(0, x.getNodeCount(), 3, 1) >= 0;
            case 1:
                return x.setSupply(x.getNodeCount(), 3);
            case 2:
                return x.setCapacity(x.getArcCount(), 3);
            default:
                return x.setCost(x.getArcCount(), 3);
        }
    }
}
