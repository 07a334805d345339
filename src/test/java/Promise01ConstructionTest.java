/** Promise 1: the node count is clamped, and everything starts empty. */
public final class Promise01ConstructionTest {
    public static void main(String[] args) {
        for (int nodes = -30; nodes <= 60; nodes++) {
            starts(nodes, nodes < 2 ? 2 : nodes > 24 ? 24 : nodes);
        }
        starts(Integer.MIN_VALUE, 2);
        starts(Integer.MIN_VALUE + 1, 2);
        starts(Integer.MAX_VALUE, 24);
        starts(Integer.MAX_VALUE - 1, 24);
        objectsStandAlone();
        Check.end();
    }

    private static void starts(int nodes, int count) {
        String call = "new NetworkSimplex(" + nodes + ")";
        NetworkSimplex x = new NetworkSimplex(nodes);
        Check.due(call + ".getNodeCount()", x.getNodeCount(), count);
        Check.due(call + ".getArcCount()", x.getArcCount(), 0);
        Check.due(call + " result", Check.result(x), Check.NO_RESULT);
        for (int v = -2; v < 30; v++) {
            Check.due(call + ".getSupply(" + v + ")", x.getSupply(v), 0);
            Check.due(call + ".inWitness(" + v + ")", x.inWitness(v), false);
            Check.due(call + ".getArc(" + v + ", 1)", x.getArc(v, 1), 0);
        }
        for (int v : Check.EXTREMES) {
            Check.due(call + ".inWitness(" + v + ")", x.inWitness(v), false);
        }
        Check.due(call + ".setSupply(count - 1)", x.setSupply(count - 1, 1), true);
        Check.due(call + ".setSupply(count)", x.setSupply(count, 1), false);
        Check.due(call + ".getNodeCount() later", x.getNodeCount(), count);
    }

    private static void objectsStandAlone() {
        NetworkSimplex one = Check.infeasible();
        String before = Check.all(one);
        NetworkSimplex other = new NetworkSimplex(5);
        Check.due("a second object", Check.result(other), Check.NO_RESULT);
        Check.due("a second object's arcs", other.getArcCount(), 0);
        other.addArc(4, 3, 1, 1);
        other.setSupply(0, 9);
        other.solve();
        Check.due("the first object beside a second", Check.all(one), before);
    }
}
