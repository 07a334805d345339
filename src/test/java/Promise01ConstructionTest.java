/** Promise 1: the node count is clamped, and everything starts empty. */
public final class Promise01ConstructionTest {
    public static void main(String[] args) {
        Check.sentence("`new NetworkSimplex(nodes)` never fails", Promise01ConstructionTest::neverFails);
        Check.sentence("any value below 2 (including 0, negative values and `Integer.MIN_VALUE`) becomes 2",
            Promise01ConstructionTest::tooFew);
        Check.sentence("any value above 24 (including `Integer.MAX_VALUE`) becomes 24",
            Promise01ConstructionTest::tooMany);
        Check.sentence("`nodes` is clamped into [2, 24]", Promise01ConstructionTest::withinIsKept);
        Check.sentence("is the node count for the whole life of the object and is never changed by any later call",
            Promise01ConstructionTest::laterCallsKeepTheCount);
        Check.sentence("`getNodeCount()` answers the clamped node count",
            Promise01ConstructionTest::exactlyTheCountedNodes);
        Check.sentence("every node's supply is 0", Promise01ConstructionTest::startsWithoutSupplies);
        Check.sentence("there are no arcs, so `getArcCount()` answers 0", Promise01ConstructionTest::startsWithoutArcs);
        Check.sentence("`getStatus()` answers `STATUS_NONE`", Promise01ConstructionTest::startsUnsolved);
        Check.sentence("`getTotalCost()` answers 0 and `getShortfall()` answers 0",
            Promise01ConstructionTest::startsAtZero);
        Check.sentence("the witness is empty: `getWitnessSize()` answers 0 and `inWitness` answers false"
            + " for every argument", Promise01ConstructionTest::startsWithoutWitness);
        Check.sentence("Right after construction: one object beside another",
            Promise01ConstructionTest::objectsStandAlone);
        Check.end();
    }

    private static void neverFails() {
        for (int nodes : Edges.all()) {
            int count = new NetworkSimplex(nodes).getNodeCount();
            Check.due("a count from 2 to 24 for " + nodes, count >= 2 && count <= 24, true);
        }
    }

    private static void tooFew() {
        Check.due("new NetworkSimplex(1)", new NetworkSimplex(1).getNodeCount(), 2);
        Check.due("new NetworkSimplex(0)", new NetworkSimplex(0).getNodeCount(), 2);
        Check.due("new NetworkSimplex(-1)", new NetworkSimplex(-1).getNodeCount(), 2);
        Check.due("new NetworkSimplex(MIN_VALUE)", new NetworkSimplex(Integer.MIN_VALUE).getNodeCount(), 2);
        for (int nodes : Edges.below(2)) {
            Check.due("new NetworkSimplex(" + nodes + ")", new NetworkSimplex(nodes).getNodeCount(), 2);
        }
    }

    private static void tooMany() {
        Check.due("new NetworkSimplex(25)", new NetworkSimplex(25).getNodeCount(), 24);
        Check.due("new NetworkSimplex(MAX_VALUE)", new NetworkSimplex(Integer.MAX_VALUE).getNodeCount(), 24);
        for (int nodes : Edges.above(24)) {
            Check.due("new NetworkSimplex(" + nodes + ")", new NetworkSimplex(nodes).getNodeCount(), 24);
        }
    }

    private static void withinIsKept() {
        for (int nodes = 2; nodes <= 24; nodes++) {
            Check.due("new NetworkSimplex(" + nodes + ")", new NetworkSimplex(nodes).getNodeCount(), nodes);
        }
    }

    private static void laterCallsKeepTheCount() {
        for (int nodes : new int[] {Integer.MIN_VALUE, 2, 13, 24, Integer.MAX_VALUE}) {
            NetworkSimplex x = new NetworkSimplex(nodes);
            int count = x.getNodeCount();
            for (int value : Edges.all()) {
                x.addArc(value, 0, value, value);
                x.addArc(0, value, value, value);
                x.setSupply(value, value);
                x.setCapacity(value, value);
                x.setCost(value, value);
                x.solve();
                Check.due("getNodeCount() after calls with " + value, x.getNodeCount(), count);
            }
            for (int k = 0; k < 97; k++) {
                x.addArc(0, 1, 1, 1);
                Check.due("getNodeCount() after addArc", x.getNodeCount(), count);
            }
        }
    }

    /** The count is told truly: its last node takes calls, the next one is refused. */
    private static void exactlyTheCountedNodes() {
        for (int nodes : Edges.all()) {
            NetworkSimplex x = new NetworkSimplex(nodes);
            int count = x.getNodeCount();
            Check.due("setSupply on the last of " + count, x.setSupply(count - 1, 1), true);
            Check.due("addArc to the last of " + count, x.addArc(0, count - 1, 1, 1), 0);
            Check.due("setSupply beyond " + count, x.setSupply(count, 1), false);
            Check.due("addArc beyond " + count, x.addArc(0, count, 1, 1), -1);
        }
    }

    private static void startsWithoutSupplies() {
        for (int nodes : Edges.all()) {
            NetworkSimplex x = new NetworkSimplex(nodes);
            for (int v = 0; v < x.getNodeCount(); v++) {
                Check.due("getSupply(" + v + ") of " + nodes, x.getSupply(v), 0);
            }
        }
    }

    private static void startsWithoutArcs() {
        for (int nodes : Edges.all()) {
            NetworkSimplex x = new NetworkSimplex(nodes);
            Check.due("getArcCount() of " + nodes, x.getArcCount(), 0);
            Check.due("setCapacity(0, 1) of " + nodes, x.setCapacity(0, 1), false);
            for (int k = 0; k < 97; k++) {
                Check.due("getArc(" + k + ", 1) of " + nodes, x.getArc(k, NetworkSimplex.FIELD_HEAD), 0);
            }
        }
    }

    private static void startsUnsolved() {
        for (int nodes : Edges.all()) {
            Check.due("getStatus() of " + nodes, new NetworkSimplex(nodes).getStatus(), NetworkSimplex.STATUS_NONE);
        }
    }

    private static void startsAtZero() {
        for (int nodes : Edges.all()) {
            NetworkSimplex x = new NetworkSimplex(nodes);
            Check.due("getTotalCost() of " + nodes, x.getTotalCost(), 0);
            Check.due("getShortfall() of " + nodes, x.getShortfall(), 0);
        }
    }

    private static void startsWithoutWitness() {
        for (int nodes : new int[] {Integer.MIN_VALUE, 2, 3, 24, Integer.MAX_VALUE}) {
            NetworkSimplex x = new NetworkSimplex(nodes);
            Check.due("getWitnessSize() of " + nodes, x.getWitnessSize(), 0);
            for (int node : Edges.all()) {
                Check.due("inWitness(" + node + ") of " + nodes, x.inWitness(node), false);
            }
        }
    }

    private static void objectsStandAlone() {
        NetworkSimplex one = States.infeasible();
        String before = Check.all(one);
        NetworkSimplex other = new NetworkSimplex(5);
        Check.due("a second object", Check.result(other), Check.NO_RESULT);
        Check.due("a second object's arcs", other.getArcCount(), 0);
        other.addArc(4, 3, 1, 1);
        other.setSupply(0, 9);
        other.solve();
        Check.due("the first object beside a second", Check.all(one), before);
    }
}
