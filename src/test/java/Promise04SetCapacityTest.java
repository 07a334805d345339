/** Promise 4: setCapacity's refusals, clamp and RESET. */
public final class Promise04SetCapacityTest {
    public static void main(String[] args) {
        clamps();
        refusals();
        changesOneArc();
        resets();
        Check.end();
    }

    private static void clamps() {
        int[][] caps = {{-21, 0}, {-1, 0}, {0, 0}, {1, 1}, {19, 19}, {20, 20}, {21, 20}, {50, 20},
            {Integer.MIN_VALUE, 0}, {Integer.MAX_VALUE, 20}};
        NetworkSimplex x = new NetworkSimplex(2);
        for (int k = 0; k < 96; k++) {
            x.addArc(k % 2, 1 - k % 2, 10, 10);
        }
        for (int k = 0; k < 96; k++) {
            for (int[] cap : caps) {
                Check.due("setCapacity(" + k + ", " + cap[0] + ")", x.setCapacity(k, cap[0]), true);
                Check.due("capacity of " + k, x.getArc(k, NetworkSimplex.FIELD_CAP), cap[1]);
            }
        }
        Check.due("setCapacity(96, 1)", x.setCapacity(96, 1), false);
    }

    private static void refusals() {
        Check.due("setCapacity(0, 1) without arcs", new NetworkSimplex(2).setCapacity(0, 1), false);
        for (NetworkSimplex x : Check.ofEachStatus()) {
            String before = Check.all(x);
            for (int arc : new int[] {2, 3, 95, 96, 97}) {
                Check.due("setCapacity(" + arc + ", 5)", x.setCapacity(arc, 5), false);
            }
            for (int arc : Check.EXTREMES) {
                Check.due("setCapacity(" + arc + ", 5)", x.setCapacity(arc, 5), false);
            }
            Check.due("after refusals", Check.all(x), before);
        }
    }

    private static void changesOneArc() {
        NetworkSimplex x = Check.optimal();
        x.setCapacity(1, 3);
        Check.due("after setCapacity(1, 3)", Check.all(x), Check.NO_RESULT + " nodes 3 supplies 0 4 0 -4 0 arcs 2"
            + " | 0 0 0 0 0 0 | 0 0 1 6 3 0 | 0 1 2 3 -1 0 | 0 0 0 0 0 0");
        x.solve();
        Check.due("with less capacity", Check.result(x), "status 2 cost 0 shortfall 1 witness 1: 2");
        x.setCapacity(1, 4);
        x.solve();
        Check.due("with enough capacity", Check.result(x), "status 1 cost 8 shortfall 0 witness 0:");
    }

    private static void resets() {
        for (NetworkSimplex x : Check.ofEachStatus()) {
            String before = Check.network(x);
            Check.due("setCapacity to the same", x.setCapacity(1, 5), true);
            Check.due("result after the same capacity", Check.result(x), Check.NO_RESULT);
            Check.due("network after the same capacity", Check.network(x), before);
        }
    }
}
