/** Promise 3: setSupply's refusals, clamp and RESET. */
public final class Promise03SetSupplyTest {
    public static void main(String[] args) {
        clamps();
        refusals();
        changesOneNode();
        resets();
        Check.end();
    }

    private static void clamps() {
        int[][] amounts = {{-21, -20}, {-20, -20}, {-19, -19}, {-1, -1}, {0, 0}, {1, 1}, {19, 19}, {20, 20},
            {21, 20}, {Integer.MIN_VALUE, -20}, {Integer.MAX_VALUE, 20}};
        NetworkSimplex x = new NetworkSimplex(24);
        for (int v = 0; v < 24; v++) {
            for (int[] amount : amounts) {
                Check.due("setSupply(" + v + ", " + amount[0] + ")", x.setSupply(v, amount[0]), true);
                Check.due("getSupply(" + v + ")", x.getSupply(v), amount[1]);
            }
        }
    }

    private static void refusals() {
        for (NetworkSimplex x : Check.ofEachStatus()) {
            String before = Check.all(x);
            for (int node : new int[] {3, 4, 23, 24, 25}) {
                Check.due("setSupply(" + node + ", 5)", x.setSupply(node, 5), false);
            }
            for (int node : Check.EXTREMES) {
                Check.due("setSupply(" + node + ", 5)", x.setSupply(node, 5), false);
            }
            Check.due("after refusals", Check.all(x), before);
        }
    }

    private static void changesOneNode() {
        NetworkSimplex x = Check.optimal();
        x.setSupply(1, -9);
        Check.due("after setSupply(1, -9)", Check.all(x), Check.NO_RESULT + " nodes 3 supplies 0 4 -9 -4 0 arcs 2"
            + " | 0 0 0 0 0 0 | 0 0 1 6 3 0 | 0 1 2 5 -1 0 | 0 0 0 0 0 0");
        x.setSupply(1, 0);
        x.setSupply(1, 2);
        Check.due("the latest supply", x.getSupply(1), 2);
    }

    private static void resets() {
        for (NetworkSimplex x : Check.ofEachStatus()) {
            String before = Check.network(x);
            Check.due("setSupply to the same", x.setSupply(0, x.getSupply(0)), true);
            Check.due("result after the same supply", Check.result(x), Check.NO_RESULT);
            Check.due("network after the same supply", Check.network(x), before);
        }
    }
}
