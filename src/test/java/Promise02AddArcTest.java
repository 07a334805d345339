/** Promise 2: addArc's refusals, clamps, numbers and RESET. */
public final class Promise02AddArcTest {
    public static void main(String[] args) {
        numbersAndFields();
        clamps();
        refusals();
        fullNetwork();
        parallelAndOpposite();
        resets();
        Check.end();
    }

    private static void numbersAndFields() {
        NetworkSimplex x = new NetworkSimplex(4);
        x.setSupply(1, 7);
        Check.due("first addArc", x.addArc(0, 3, 5, 6), 0);
        Check.due("second addArc", x.addArc(3, 0, 8, -9), 1);
        Check.due("third addArc", x.addArc(2, 1, 0, 0), 2);
        Check.due("three arcs", Check.network(x), "nodes 4 supplies 0 0 7 0 0 0 arcs 3"
            + " | 0 0 0 0 0 0 | 0 0 3 5 6 0 | 0 3 0 8 -9 0 | 0 2 1 0 0 0 | 0 0 0 0 0 0");
    }

    private static void clamps() {
        int[][] caps = {{-1, 0}, {0, 0}, {1, 1}, {19, 19}, {20, 20}, {21, 20},
            {Integer.MIN_VALUE, 0}, {Integer.MAX_VALUE, 20}};
        int[][] costs = {{-51, -50}, {-50, -50}, {-49, -49}, {0, 0}, {49, 49}, {50, 50}, {51, 50},
            {Integer.MIN_VALUE, -50}, {Integer.MAX_VALUE, 50}};
        NetworkSimplex x = new NetworkSimplex(2);
        for (int[] cap : caps) {
            for (int[] cost : costs) {
                int arc = x.addArc(0, 1, cap[0], cost[0]);
                Check.due("cap " + cap[0], x.getArc(arc, NetworkSimplex.FIELD_CAP), cap[1]);
                Check.due("cost " + cost[0], x.getArc(arc, NetworkSimplex.FIELD_COST), cost[1]);
            }
        }
    }

    private static void refusals() {
        int[][] wrongEnds = {{-1, 0}, {0, -1}, {3, 0}, {0, 3}, {0, 0}, {1, 1}, {2, 2}, {3, 3}, {-1, -1},
            {Integer.MIN_VALUE, 1}, {1, Integer.MIN_VALUE}, {Integer.MAX_VALUE, 1}, {1, Integer.MAX_VALUE}, {24, 1},
            {1, 23}};
        for (NetworkSimplex x : Check.ofEachStatus()) {
            String before = Check.all(x);
            for (int[] ends : wrongEnds) {
                String call = "addArc(" + ends[0] + ", " + ends[1] + ", 1, 1)";
                Check.due(call, x.addArc(ends[0], ends[1], 1, 1), -1);
                Check.due("after " + call, Check.all(x), before);
            }
            int count = x.getArcCount();
            Check.due("addArc after refusals", x.addArc(2, 0, 1, 1), count);
        }
    }

    private static void fullNetwork() {
        NetworkSimplex x = new NetworkSimplex(24);
        for (int k = 0; k < 96; k++) {
            Check.due("addArc number " + k, x.addArc(k % 24, (k + 1 + k / 24) % 24, k % 21, k - 48), k);
            Check.due("getArcCount()", x.getArcCount(), k + 1);
        }
        x.setSupply(0, 20);
        x.setSupply(1, -20);
        x.solve();
        String before = Check.all(x);
        Check.due("addArc on a full network", x.addArc(0, 1, 1, 1), -1);
        Check.due("addArc on a full network, wrong ends", x.addArc(-1, 24, 1, 1), -1);
        Check.due("a full network after refusals", Check.all(x), before);
        for (int k = 0; k < 96; k++) {
            Check.due("tail " + k, x.getArc(k, NetworkSimplex.FIELD_TAIL), k % 24);
            Check.due("head " + k, x.getArc(k, NetworkSimplex.FIELD_HEAD), (k + 1 + k / 24) % 24);
            Check.due("cap " + k, x.getArc(k, NetworkSimplex.FIELD_CAP), k % 21);
            Check.due("cost " + k, x.getArc(k, NetworkSimplex.FIELD_COST), k - 48);
        }
    }

    private static void parallelAndOpposite() {
        NetworkSimplex x = new NetworkSimplex(2);
        Check.due("addArc", x.addArc(0, 1, 2, 5), 0);
        Check.due("a parallel arc", x.addArc(0, 1, 2, 1), 1);
        Check.due("the same arc again", x.addArc(0, 1, 2, 1), 2);
        Check.due("an opposite arc", x.addArc(1, 0, 3, 4), 3);
        x.setSupply(0, 5);
        x.setSupply(1, -5);
        Check.due("solve()", x.solve(), NetworkSimplex.STATUS_OPTIMAL);
        Check.due("cost over parallel arcs", x.getTotalCost(), 4 * 1 + 1 * 5);
        x.setSupply(0, -3);
        x.setSupply(1, 3);
        x.solve();
        Check.due("cost over the opposite arc", x.getTotalCost(), 12);
    }

    private static void resets() {
        for (NetworkSimplex x : Check.ofEachStatus()) {
            x.addArc(0, 1, 0, 0);
            Check.due("result after addArc", Check.result(x), Check.NO_RESULT);
        }
    }
}
