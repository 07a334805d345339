import java.util.ArrayList;
import java.util.Arrays;
import java.util.List;

/** Promise 2: addArc's refusals, clamps, numbers and RESET. */
public final class Promise02AddArcTest {
    public static void main(String[] args) {
        Check.sentence("`addArc(tail, head, cap, cost)` adds an arc from `tail` to `head`",
            Promise02AddArcTest::leadsFromTailToHead);
        Check.sentence("`getArcCount() == 96` (the network is full)", Promise02AddArcTest::fullIsRefused);
        Check.sentence("the network is full: with 95 arcs it is not", Promise02AddArcTest::lastArcIsTaken);
        Check.sentence("`tail < 0`", Promise02AddArcTest::tailTooSmall);
        Check.sentence("or `tail >= getNodeCount()`", Promise02AddArcTest::tailTooLarge);
        Check.sentence("`head < 0`", Promise02AddArcTest::headTooSmall);
        Check.sentence("or `head >= getNodeCount()`", Promise02AddArcTest::headTooLarge);
        Check.sentence("`tail == head`", Promise02AddArcTest::loopIsRefused);
        Check.sentence("the first that holds refuses the call: several hold at once", Promise02AddArcTest::severalHold);
        Check.sentence("which answers -1 and changes nothing at all (no arc is added, the result is not RESET)",
            Promise02AddArcTest::refusalsLeaveNothingBehind);
        Check.sentence("Otherwise the call succeeds: every pair of nodes", Promise02AddArcTest::allPairsAreTaken);
        Check.sentence("`cap` is clamped into [0, 20]", Promise02AddArcTest::capIsClamped);
        Check.sentence("`cost` into [-50, 50]", Promise02AddArcTest::costIsClamped);
        Check.sentence("the new arc receives the number `getArcCount()` had before the call, and that number"
            + " is answered; the arc count grows by 1", Promise02AddArcTest::numbersFollow);
        Check.sentence("Parallel arcs (same tail and same head as an existing arc) are allowed and are distinct arcs"
            + " with their own numbers, capacities and costs", Promise02AddArcTest::parallelArcs);
        Check.sentence("An arc in the opposite direction of an existing arc is likewise a separate arc",
            Promise02AddArcTest::oppositeArcs);
        Check.sentence("A successful call RESETs the result", Promise02AddArcTest::resets);
        Check.sentence("A successful call does not change the node count, any supply, or any earlier arc",
            Promise02AddArcTest::keepsTheRest);
        Check.end();
    }

    private static void refused(NetworkSimplex x, int tail, int head) {
        String before = Check.all(x);
        String call = "addArc(" + tail + ", " + head + ", 1, 1) of " + x.getNodeCount() + " nodes";
        Check.due(call, x.addArc(tail, head, 1, 1), -1);
        Check.due("after " + call, Check.all(x), before);
    }

    private static void leadsFromTailToHead() {
        for (int nodes = 2; nodes <= 24; nodes++) {
            for (int tail = 0; tail < nodes; tail++) {
                int head = (tail + 1) % nodes;
                NetworkSimplex x = new NetworkSimplex(nodes);
                x.addArc(tail, head, 3, 7);
                x.setSupply(tail, 2);
                x.setSupply(head, -2);
                Check.solves("from " + tail + " to " + head, x, "status 1 cost 14 shortfall 0 witness 0:");
                x.setSupply(tail, -2);
                x.setSupply(head, 2);
                Check.solves("from " + head + " to " + tail, x, "status 2 cost 0 shortfall 2 witness 1: " + tail);
            }
        }
    }

    private static List<NetworkSimplex> withRoom() {
        List<NetworkSimplex> objects = new ArrayList<>(States.withoutArcs());
        objects.addAll(States.withTwoArcs());
        return objects;
    }

    private static void fullIsRefused() {
        for (NetworkSimplex x : States.full()) {
            int last = x.getNodeCount() - 1;
            refused(x, 0, 1);
            refused(x, 1, 0);
            refused(x, 0, last);
            refused(x, last, 0);
        }
    }

    private static void lastArcIsTaken() {
        for (int nodes = 2; nodes <= 24; nodes++) {
            NetworkSimplex x = new NetworkSimplex(nodes);
            for (int k = 0; k < 95; k++) {
                x.addArc(0, 1, 0, 0);
            }
            Check.due("addArc with 95 arcs", x.addArc(nodes - 1, 0, 17, -13), 95);
            Check.due("tail of 95", x.getArc(95, NetworkSimplex.FIELD_TAIL), nodes - 1);
            Check.due("head of 95", x.getArc(95, NetworkSimplex.FIELD_HEAD), 0);
            Check.due("cap of 95", x.getArc(95, NetworkSimplex.FIELD_CAP), 17);
            Check.due("cost of 95", x.getArc(95, NetworkSimplex.FIELD_COST), -13);
            Check.due("addArc with 96 arcs", x.addArc(nodes - 1, 0, 17, -13), -1);
        }
    }

    private static void tailTooSmall() {
        for (NetworkSimplex x : withRoom()) {
            for (int tail : Edges.below(0)) {
                refused(x, tail, 0);
                refused(x, tail, x.getNodeCount() - 1);
            }
        }
    }

    private static void tailTooLarge() {
        for (NetworkSimplex x : withRoom()) {
            for (int tail : Edges.above(x.getNodeCount() - 1)) {
                refused(x, tail, 0);
                refused(x, tail, x.getNodeCount() - 1);
            }
        }
    }

    private static void headTooSmall() {
        for (NetworkSimplex x : withRoom()) {
            for (int head : Edges.below(0)) {
                refused(x, 0, head);
                refused(x, x.getNodeCount() - 1, head);
            }
        }
    }

    private static void headTooLarge() {
        for (NetworkSimplex x : withRoom()) {
            for (int head : Edges.above(x.getNodeCount() - 1)) {
                refused(x, 0, head);
                refused(x, x.getNodeCount() - 1, head);
            }
        }
    }

    private static void loopIsRefused() {
        for (NetworkSimplex x : withRoom()) {
            for (int node = 0; node < x.getNodeCount(); node++) {
                refused(x, node, node);
            }
        }
    }

    private static void severalHold() {
        for (NetworkSimplex x : States.all()) {
            for (int node : Edges.outside(x.getNodeCount())) {
                refused(x, node, node);
                refused(x, node, -1);
                refused(x, x.getNodeCount(), node);
            }
        }
        for (NetworkSimplex x : States.full()) {
            for (int node : Edges.all()) {
                refused(x, node, 1);
                refused(x, 1, node);
            }
        }
    }

    private static void refusalsLeaveNothingBehind() {
        for (NetworkSimplex x : withRoom()) {
            int count = x.getArcCount();
            for (int node : Edges.outside(x.getNodeCount())) {
                x.addArc(0, node, 9, -9);
                x.addArc(node, 0, 9, -9);
            }
            x.addArc(1, 1, 9, -9);
            Check.due("addArc after refusals", x.addArc(1, 0, 2, 3), count);
            Check.solvesLikeNew("after refused arcs", x);
        }
        for (NetworkSimplex x : States.full()) {
            x.addArc(0, 1, 20, -50);
            x.addArc(1, 0, 20, -50);
            Check.solvesLikeNew("after arcs refused by a full network", x);
        }
    }

    private static void allPairsAreTaken() {
        for (int nodes = 2; nodes <= 24; nodes++) {
            for (int tail = 0; tail < nodes; tail++) {
                for (int head = 0; head < nodes; head++) {
                    NetworkSimplex x = new NetworkSimplex(nodes);
                    Check.due("addArc(" + tail + ", " + head + ", 1, 1) of " + nodes + " nodes",
                        x.addArc(tail, head, 1, 1), tail == head ? -1 : 0);
                }
            }
        }
    }

    private static void capIsClamped() {
        NetworkSimplex x = new NetworkSimplex(2);
        for (int value : Edges.all()) {
            if (x.getArcCount() == 96) {
                x = new NetworkSimplex(2);
            }
            int arc = x.addArc(0, 1, value, 7);
            int want = value < 0 ? 0 : value > 20 ? 20 : value;
            Check.due("cap given " + value, x.getArc(arc, NetworkSimplex.FIELD_CAP), want);
            Check.due("cost beside it", x.getArc(arc, NetworkSimplex.FIELD_COST), 7);
        }
    }

    private static void costIsClamped() {
        NetworkSimplex x = new NetworkSimplex(2);
        for (int value : Edges.all()) {
            if (x.getArcCount() == 96) {
                x = new NetworkSimplex(2);
            }
            int arc = x.addArc(1, 0, 7, value);
            int want = value < -50 ? -50 : value > 50 ? 50 : value;
            Check.due("cost given " + value, x.getArc(arc, NetworkSimplex.FIELD_COST), want);
            Check.due("cap beside it", x.getArc(arc, NetworkSimplex.FIELD_CAP), 7);
        }
    }

    private static void numbersFollow() {
        NetworkSimplex x = new NetworkSimplex(24);
        for (int k = 0; k < 96; k++) {
            Check.due("addArc number " + k, x.addArc(k % 24, (k + 1 + k / 24) % 24, k % 21, k - 48), k);
            Check.due("getArcCount()", x.getArcCount(), k + 1);
        }
        for (int k = 0; k < 96; k++) {
            Check.due("tail " + k, x.getArc(k, NetworkSimplex.FIELD_TAIL), k % 24);
            Check.due("head " + k, x.getArc(k, NetworkSimplex.FIELD_HEAD), (k + 1 + k / 24) % 24);
            Check.due("cap " + k, x.getArc(k, NetworkSimplex.FIELD_CAP), k % 21);
            Check.due("cost " + k, x.getArc(k, NetworkSimplex.FIELD_COST), k - 48);
        }
    }

    private static void parallelArcs() {
        NetworkSimplex x = new NetworkSimplex(2);
        Check.due("addArc", x.addArc(0, 1, 2, 5), 0);
        Check.due("a parallel arc", x.addArc(0, 1, 4, 1), 1);
        Check.due("the same arc again", x.addArc(0, 1, 4, 1), 2);
        x.setCapacity(1, 2);
        x.setCost(2, 3);
        Check.due("three parallel arcs", Check.network(x), "nodes 2 supplies 0 0 0 0 arcs 3"
            + " | 0 0 0 0 0 0 | 0 0 1 2 5 0 | 0 0 1 2 1 0 | 0 0 1 4 3 0 | 0 0 0 0 0 0");
        x.setSupply(0, 7);
        x.setSupply(1, -7);
        Check.due("solve()", x.solve(), NetworkSimplex.STATUS_OPTIMAL);
        Check.due("cost over parallel arcs", x.getTotalCost(), 2 * 1 + 4 * 3 + 1 * 5);
        NetworkSimplex y = new NetworkSimplex(2);
        for (int k = 0; k < 96; k++) {
            Check.due("parallel arc " + k, y.addArc(0, 1, 1, 1), k);
        }
    }

    private static void oppositeArcs() {
        NetworkSimplex x = new NetworkSimplex(2);
        Check.due("addArc", x.addArc(0, 1, 2, 5), 0);
        Check.due("an opposite arc", x.addArc(1, 0, 3, 4), 1);
        Check.due("two opposite arcs", Check.network(x), "nodes 2 supplies 0 0 0 0 arcs 2"
            + " | 0 0 0 0 0 0 | 0 0 1 2 5 0 | 0 1 0 3 4 0 | 0 0 0 0 0 0");
        x.setSupply(0, -3);
        x.setSupply(1, 3);
        x.solve();
        Check.due("over the opposite arc", Check.result(x), "status 1 cost 12 shortfall 0 witness 0:");
        x.setSupply(0, 3);
        x.setSupply(1, -3);
        x.solve();
        Check.due("over the first arc", Check.result(x), "status 2 cost 0 shortfall 1 witness 1: 1");
    }

    private static void resets() {
        for (NetworkSimplex x : withRoom()) {
            int count = x.getArcCount();
            Check.due("addArc(0, 1, 0, 0)", x.addArc(0, 1, 0, 0), count);
            Check.due("result after addArc", Check.result(x), Check.NO_RESULT);
        }
        for (int nodes : new int[] {2, 24}) {
            NetworkSimplex x = new NetworkSimplex(nodes);
            for (int k = 0; k < 95; k++) {
                x.addArc(1, 0, 0, 0);
            }
            x.setSupply(0, 1);
            x.setSupply(1, -1);
            x.solve();
            Check.due("the last arc", x.addArc(0, 1, 0, 0), 95);
            Check.due("result after the last arc", Check.result(x), Check.NO_RESULT);
        }
    }

    private static void keepsTheRest() {
        NetworkSimplex x = new NetworkSimplex(4);
        x.setSupply(1, 7);
        x.addArc(0, 3, 5, 6);
        x.addArc(3, 0, 8, -9);
        x.addArc(2, 1, 0, 0);
        Check.due("three arcs", Check.network(x), "nodes 4 supplies 0 0 7 0 0 0 arcs 3"
            + " | 0 0 0 0 0 0 | 0 0 3 5 6 0 | 0 3 0 8 -9 0 | 0 2 1 0 0 0 | 0 0 0 0 0 0");
        NetworkSimplex y = new NetworkSimplex(24);
        for (int v = 0; v < 24; v++) {
            y.setSupply(v, v - 9);
        }
        for (int k = 0; k < 96; k++) {
            int[][] earlier = Check.arcs(y);
            String supplies = Check.supplies(y);
            y.addArc(k % 24, (k + 5) % 24, k, -k);
            Check.due("earlier arcs after arc " + k, Arrays.copyOf(Check.arcs(y), k), earlier);
            Check.due("nodes and supplies after arc " + k, Check.supplies(y), supplies);
        }
    }
}
