/** Promise 5: setCost's refusals, clamp and RESET. */
public final class Promise05SetCostTest {
    public static void main(String[] args) {
        clamps();
        refusals();
        changesOneArc();
        resets();
        Check.end();
    }

    private static void clamps() {
        int[][] costs = {{-51, -50}, {-50, -50}, {-49, -49}, {-1, -1}, {0, 0}, {1, 1}, {49, 49}, {50, 50},
            {51, 50}, {Integer.MIN_VALUE, -50}, {Integer.MAX_VALUE, 50}};
        NetworkSimplex x = new NetworkSimplex(2);
        for (int k = 0; k < 96; k++) {
            x.addArc(k % 2, 1 - k % 2, 10, 10);
        }
        for (int k = 0; k < 96; k++) {
            for (int[] cost : costs) {
                Check.due("setCost(" + k + ", " + cost[0] + ")", x.setCost(k, cost[0]), true);
                Check.due("cost of " + k, x.getArc(k, NetworkSimplex.FIELD_COST), cost[1]);
            }
        }
        Check.due("setCost(96, 1)", x.setCost(96, 1), false);
    }

    private static void refusals() {
        Check.due("setCost(0, 1) without arcs", new NetworkSimplex(2).setCost(0, 1), false);
        for (NetworkSimplex x : Check.ofEachStatus()) {
            String before = Check.all(x);
            for (int arc : new int[] {2, 3, 95, 96, 97}) {
                Check.due("setCost(" + arc + ", 5)", x.setCost(arc, 5), false);
            }
            for (int arc : Check.EXTREMES) {
                Check.due("setCost(" + arc + ", 5)", x.setCost(arc, 5), false);
            }
            Check.due("after refusals", Check.all(x), before);
        }
    }

    private static void changesOneArc() {
        NetworkSimplex x = Check.optimal();
        x.setCost(0, -30);
        Check.due("after setCost(0, -30)", Check.all(x), Check.NO_RESULT + " nodes 3 supplies 0 4 0 -4 0 arcs 2"
            + " | 0 0 0 0 0 0 | 0 0 1 6 -30 0 | 0 1 2 5 -1 0 | 0 0 0 0 0 0");
        x.solve();
        Check.due("with another cost", Check.result(x), "status 1 cost -124 shortfall 0 witness 0:");
        x.setCost(0, 3);
        x.solve();
        Check.due("with the old cost", Check.result(x), "status 1 cost 8 shortfall 0 witness 0:");
    }

    private static void resets() {
        for (NetworkSimplex x : Check.ofEachStatus()) {
            String before = Check.network(x);
            Check.due("setCost to the same", x.setCost(1, -1), true);
            Check.due("result after the same cost", Check.result(x), Check.NO_RESULT);
            Check.due("network after the same cost", Check.network(x), before);
        }
    }
}
