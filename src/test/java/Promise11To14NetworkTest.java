/** Promises 11 to 14: getNodeCount, getArcCount, getSupply and getArc. */
public final class Promise11To14NetworkTest {
    public static void main(String[] args) {
        nodeCountStays();
        arcCountGrowsByOne();
        supplies();
        arcFields();
        wrongArcsAndFields();
        changeNothing();
        Check.end();
    }

    private static void nodeCountStays() {
        for (int nodes = 2; nodes <= 24; nodes++) {
            NetworkSimplex x = new NetworkSimplex(nodes);
            x.addArc(0, 1, 1, 1);
            x.addArc(0, nodes, 1, 1);
            x.setSupply(0, 20);
            x.setSupply(nodes, 20);
            x.setCapacity(0, 9);
            x.setCost(0, 9);
            x.solve();
            Check.due("getNodeCount()", x.getNodeCount(), nodes);
        }
    }

    private static void arcCountGrowsByOne() {
        NetworkSimplex x = new NetworkSimplex(5);
        for (int k = 0; k < 96; k++) {
            Check.due("getArcCount()", x.getArcCount(), k);
            x.addArc(2, 2, 1, 1);
            x.setSupply(1, k);
            x.setCapacity(k, 1);
            x.setCost(k, 1);
            x.solve();
            Check.due("getArcCount() after other calls", x.getArcCount(), k);
            x.addArc(k % 5, (k + 2) % 5, k, k);
        }
        x.addArc(0, 1, 1, 1);
        Check.due("getArcCount() when full", x.getArcCount(), 96);
    }

    private static void supplies() {
        NetworkSimplex x = new NetworkSimplex(24);
        for (int v = 0; v < 24; v++) {
            x.setSupply(v, 2 * v - 23);
        }
        x.solve();
        for (int v = 0; v < 24; v++) {
            int want = 2 * v - 23;
            Check.due("getSupply(" + v + ")", x.getSupply(v), want < -20 ? -20 : want > 20 ? 20 : want);
        }
        for (int v : Check.EXTREMES) {
            Check.due("getSupply(" + v + ")", x.getSupply(v), 0);
        }
        Check.due("getSupply(24)", x.getSupply(24), 0);
        NetworkSimplex y = new NetworkSimplex(3);
        y.setSupply(2, 9);
        y.setSupply(3, 9);
        Check.due("getSupply(2) of 3", y.getSupply(2), 9);
        Check.due("getSupply(3) of 3", y.getSupply(3), 0);
    }

    private static void arc(NetworkSimplex x, int arc, int tail, int head, int cap, int cost) {
        Check.due("tail of " + arc, x.getArc(arc, NetworkSimplex.FIELD_TAIL), tail);
        Check.due("head of " + arc, x.getArc(arc, NetworkSimplex.FIELD_HEAD), head);
        Check.due("cap of " + arc, x.getArc(arc, NetworkSimplex.FIELD_CAP), cap);
        Check.due("cost of " + arc, x.getArc(arc, NetworkSimplex.FIELD_COST), cost);
    }

    private static void arcFields() {
        NetworkSimplex x = new NetworkSimplex(24);
        x.addArc(23, 1, 99, -99);
        x.addArc(2, 22, -99, 99);
        x.addArc(4, 3, 5, -6);
        arc(x, 0, 23, 1, 20, -50);
        arc(x, 1, 2, 22, 0, 50);
        arc(x, 2, 4, 3, 5, -6);
        x.setCapacity(1, 17);
        x.setCost(2, 1000);
        x.setCost(0, 13);
        x.setCapacity(0, -1);
        x.setCapacity(0, 8);
        x.solve();
        arc(x, 0, 23, 1, 8, 13);
        arc(x, 1, 2, 22, 17, 50);
        arc(x, 2, 4, 3, 5, 50);
    }

    private static void wrongArcsAndFields() {
        NetworkSimplex x = Check.optimal();
        for (int field = -5; field < 10; field++) {
            for (int arc : Check.EXTREMES) {
                Check.due("getArc(" + arc + ", " + field + ")", x.getArc(arc, field), 0);
            }
            for (int arc = 2; arc < 100; arc++) {
                Check.due("getArc(" + arc + ", " + field + ")", x.getArc(arc, field), 0);
            }
            if (field < 0 || field > 3) {
                Check.due("getArc(1, " + field + ")", x.getArc(1, field), 0);
            }
        }
        for (int field : Check.EXTREMES) {
            Check.due("getArc(1, " + field + ")", x.getArc(1, field), 0);
        }
        Check.due("getArc(0, 0) without arcs", new NetworkSimplex(2).getArc(0, 0), 0);
    }

    private static void changeNothing() {
        for (NetworkSimplex x : Check.ofEachStatus()) {
            String before = Check.all(x);
            Check.due("after all getters", Check.all(x), before);
            x.getNodeCount();
            x.getArcCount();
            x.getSupply(1);
            x.getSupply(-1);
            x.getArc(0, 2);
            x.getArc(9, 9);
            Check.due("after the getters", Check.all(x), before);
        }
    }
}
