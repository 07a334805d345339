/** Promise 3: setSupply's refusals, clamp and RESET. */
public final class Promise03SetSupplyTest {
    public static void main(String[] args) {
        Check.sentence("`setSupply(node, amount)` is refused when `node < 0`", Promise03SetSupplyTest::nodeTooSmall);
        Check.sentence("or `node >= getNodeCount()`", Promise03SetSupplyTest::nodeTooLarge);
        Check.sentence("it answers false and changes nothing (the result is not RESET)",
            Promise03SetSupplyTest::refusalsLeaveNothingBehind);
        Check.sentence("Otherwise ... true is answered: the first and the last node",
            Promise03SetSupplyTest::everyNodeIsTaken);
        Check.sentence("`amount` is clamped into [-20, 20] and stored as b_node: too small",
            Promise03SetSupplyTest::amountTooSmall);
        Check.sentence("`amount` is clamped into [-20, 20] and stored as b_node: too large",
            Promise03SetSupplyTest::amountTooLarge);
        Check.sentence("`amount` is clamped into [-20, 20] and stored as b_node: within",
            Promise03SetSupplyTest::amountWithin);
        Check.sentence("the result is RESET", Promise03SetSupplyTest::anotherValueResets);
        Check.sentence("The RESET happens even if the stored value is the same as before",
            Promise03SetSupplyTest::sameValueResets);
        Check.sentence("A successful call changes only the supply of that one node (and the result);"
            + " other supplies, the arcs and the node count stay as they were", Promise03SetSupplyTest::changesOneNode);
        Check.end();
    }

    private static void refused(NetworkSimplex x, int node, int amount) {
        String before = Check.all(x);
        String call = "setSupply(" + node + ", " + amount + ") of " + x.getNodeCount() + " nodes";
        Check.due(call, x.setSupply(node, amount), false);
        Check.due("after " + call, Check.all(x), before);
    }

    private static void nodeTooSmall() {
        for (NetworkSimplex x : States.all()) {
            for (int node : Edges.below(0)) {
                refused(x, node, 5);
            }
        }
    }

    private static void nodeTooLarge() {
        for (NetworkSimplex x : States.all()) {
            for (int node : Edges.above(x.getNodeCount() - 1)) {
                refused(x, node, 5);
            }
        }
    }

    private static void refusalsLeaveNothingBehind() {
        for (NetworkSimplex x : States.all()) {
            for (int node : Edges.outside(x.getNodeCount())) {
                x.setSupply(node, node);
                x.setSupply(node, 5);
            }
            Check.solvesLikeNew("after refused supplies", x);
        }
    }

    private static void everyNodeIsTaken() {
        for (int nodes = 2; nodes <= 24; nodes++) {
            NetworkSimplex x = new NetworkSimplex(nodes);
            for (int v = 0; v < nodes; v++) {
                Check.due("setSupply(" + v + ", 1) of " + nodes + " nodes", x.setSupply(v, 1), true);
                Check.due("getSupply(" + v + ") of " + nodes + " nodes", x.getSupply(v), 1);
            }
        }
    }

    private static void stores(NetworkSimplex x, int node, int amount, int want) {
        Check.due("setSupply(" + node + ", " + amount + ")", x.setSupply(node, amount), true);
        Check.due("getSupply(" + node + ") given " + amount, x.getSupply(node), want);
    }

    private static void amountTooSmall() {
        NetworkSimplex x = new NetworkSimplex(24);
        for (int v = 0; v < 24; v++) {
            stores(x, v, -21, -20);
            for (int amount : Edges.below(-20)) {
                x.setSupply(v, 7);
                stores(x, v, amount, -20);
            }
            x.setSupply(v, 7);
            stores(x, v, Integer.MIN_VALUE, -20);
        }
    }

    private static void amountTooLarge() {
        NetworkSimplex x = new NetworkSimplex(24);
        for (int v = 0; v < 24; v++) {
            stores(x, v, 21, 20);
            for (int amount : Edges.above(20)) {
                x.setSupply(v, 7);
                stores(x, v, amount, 20);
            }
            x.setSupply(v, 7);
            stores(x, v, Integer.MAX_VALUE, 20);
        }
    }

    private static void amountWithin() {
        NetworkSimplex x = new NetworkSimplex(24);
        for (int v = 0; v < 24; v++) {
            for (int amount = -20; amount <= 20; amount++) {
                stores(x, v, amount, amount);
            }
        }
    }

    private static void anotherValueResets() {
        for (NetworkSimplex x : States.all()) {
            int node = x.getNodeCount() - 1;
            Check.due("setSupply to another", x.setSupply(node, x.getSupply(node) + 1), true);
            Check.due("result after another supply", Check.result(x), Check.NO_RESULT);
        }
    }

    private static void sameValueResets() {
        for (NetworkSimplex x : States.all()) {
            String before = Check.network(x);
            Check.due("setSupply to the same", x.setSupply(0, x.getSupply(0)), true);
            Check.due("after the same supply", Check.all(x), Check.NO_RESULT + " " + before);
        }
        NetworkSimplex y = new NetworkSimplex(2);
        y.setSupply(0, 20);
        y.setSupply(1, -20);
        y.solve();
        y.setSupply(0, 21);
        Check.due("after 21 is clamped to the same 20", Check.result(y), Check.NO_RESULT);
        y.solve();
        y.setSupply(1, Integer.MIN_VALUE);
        Check.due("after the least is clamped to the same -20", Check.result(y), Check.NO_RESULT);
    }

    private static void changesOneNode() {
        NetworkSimplex x = States.optimal();
        x.setSupply(1, -9);
        Check.due("after setSupply(1, -9)", Check.all(x), Check.NO_RESULT + " nodes 3 supplies 0 4 -9 -4 0 arcs 2"
            + " | 0 0 0 0 0 0 | 0 0 1 6 3 0 | 0 1 2 5 -1 0 | 0 0 0 0 0 0");
        x.setSupply(1, 0);
        x.setSupply(1, 2);
        Check.due("the latest supply", x.getSupply(1), 2);
        NetworkSimplex y = new NetworkSimplex(24);
        for (int v = 0; v < 24; v++) {
            y.setSupply(v, v - 10);
        }
        for (int changed = 0; changed < 24; changed++) {
            y.setSupply(changed, 17);
            for (int v = 0; v < 24; v++) {
                Check.due("getSupply(" + v + ") after node " + changed, y.getSupply(v), v <= changed ? 17 : v - 10);
            }
        }
    }
}
