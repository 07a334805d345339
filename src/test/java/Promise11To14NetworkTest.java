/** Promises 11 to 14: getNodeCount, getArcCount, getSupply and getArc. */
public final class Promise11To14NetworkTest {
    public static void main(String[] args) {
        Check.sentence("11: answers the node count fixed by the constructor, a value from 2 to 24",
            Promise11To14NetworkTest::nodeCountFromTwoTo24);
        Check.sentence("11: It never changes over the life of the object", Promise11To14NetworkTest::nodeCountStays);
        Check.sentence("11: and calling it changes nothing", Promise11To14NetworkTest::nodeCountChangesNothing);

        Check.sentence("12: answers the number of arcs added so far, a value from 0 to 96",
            Promise11To14NetworkTest::arcCountFromZeroTo96);
        Check.sentence("12: It grows by exactly 1 with each successful `addArc`",
            Promise11To14NetworkTest::arcCountGrowsByOne);
        Check.sentence("12: and is changed by nothing else", Promise11To14NetworkTest::arcCountStays);
        Check.sentence("12: Calling it changes nothing", Promise11To14NetworkTest::arcCountChangesNothing);

        Check.sentence("13: answers b_node as stored (the clamped value from the latest successful `setSupply`"
            + " for that node", Promise11To14NetworkTest::latestSupply);
        Check.sentence("13: or 0 if there was none)", Promise11To14NetworkTest::noSupply);
        Check.sentence("13: It answers 0 when `node < 0`", Promise11To14NetworkTest::supplyOfNodeTooSmall);
        Check.sentence("13: or `node >= getNodeCount()`", Promise11To14NetworkTest::supplyOfNodeTooLarge);
        Check.sentence("13: It changes nothing", Promise11To14NetworkTest::supplyChangesNothing);

        Check.sentence("14: answers one stored field of an arc: `FIELD_TAIL` ... `FIELD_COST`",
            Promise11To14NetworkTest::eachFieldOfEachArc);
        Check.sentence("14: Tail and head are the values given to the successful `addArc` and never change",
            Promise11To14NetworkTest::endsStay);
        Check.sentence("14: the arc's capacity as stored (the clamped value), replaced by the latest successful"
            + " `setCapacity`", Promise11To14NetworkTest::latestCapacity);
        Check.sentence("14: the arc's cost as stored (the clamped value), replaced by the latest successful `setCost`",
            Promise11To14NetworkTest::latestCost);
        Check.sentence("14: It answers 0 when `arc < 0`", Promise11To14NetworkTest::arcTooSmall);
        Check.sentence("14: `arc >= getArcCount()`", Promise11To14NetworkTest::arcTooLarge);
        Check.sentence("14: or `field` is not one of the four selectors: below them",
            Promise11To14NetworkTest::fieldTooSmall);
        Check.sentence("14: or `field` is not one of the four selectors: above them",
            Promise11To14NetworkTest::fieldTooLarge);
        Check.sentence("14: It changes nothing", Promise11To14NetworkTest::arcChangesNothing);
        Check.end();
    }

    private static void nodeCountFromTwoTo24() {
        for (int nodes : Edges.all()) {
            int want = nodes < 2 ? 2 : nodes > 24 ? 24 : nodes;
            Check.due("getNodeCount() of " + nodes, new NetworkSimplex(nodes).getNodeCount(), want);
        }
    }

    private static void nodeCountStays() {
        for (int nodes = 2; nodes <= 24; nodes++) {
            NetworkSimplex x = new NetworkSimplex(nodes);
            x.addArc(0, 1, 1, 1);
            x.addArc(0, nodes, 1, 1);
            x.setSupply(0, 20);
            x.setSupply(nodes, 20);
            x.setCapacity(0, 9);
            x.setCost(0, 9);
            x.solve();
            Check.due("getNodeCount() after calls", x.getNodeCount(), nodes);
            for (int k = 1; k < 100; k++) {
                x.addArc(nodes - 1, 0, 1, 1);
                Check.due("getNodeCount() after addArc", x.getNodeCount(), nodes);
            }
            x.setSupply(0, 0);
            x.solve();
            Check.due("getNodeCount() when full and solved", x.getNodeCount(), nodes);
        }
    }

    private static void nodeCountChangesNothing() {
        for (NetworkSimplex x : States.all()) {
            String before = Check.all(x);
            int first = x.getNodeCount();
            Check.due("getNodeCount() again", x.getNodeCount(), first);
            Check.due("after getNodeCount()", Check.all(x), before);
        }
    }

    private static void arcCountFromZeroTo96() {
        for (int nodes = 2; nodes <= 24; nodes++) {
            NetworkSimplex x = new NetworkSimplex(nodes);
            Check.due("getArcCount() without arcs", x.getArcCount(), 0);
            for (int k = 0; k < 200; k++) {
                x.addArc(k % nodes, (k + 1) % nodes, 1, 1);
            }
            Check.due("getArcCount() after 200 calls", x.getArcCount(), 96);
        }
    }

    private static void arcCountGrowsByOne() {
        NetworkSimplex x = new NetworkSimplex(5);
        for (int k = 0; k < 96; k++) {
            Check.due("getArcCount() before arc " + k, x.getArcCount(), k);
            Check.due("addArc", x.addArc(k % 5, (k + 2) % 5, k, k), k);
            Check.due("getArcCount() after arc " + k, x.getArcCount(), k + 1);
        }
    }

    private static void arcCountStays() {
        NetworkSimplex x = new NetworkSimplex(5);
        for (int count = 0; count <= 96; count++) {
            x.addArc(2, 2, 1, 1);
            x.addArc(-1, 2, 1, 1);
            x.addArc(2, 5, 1, 1);
            x.setSupply(1, count);
            x.solve();
            x.setSupply(1, 0);
            x.setSupply(5, count);
            x.setCapacity(count - 1, 0);
            x.setCapacity(count, 1);
            x.setCost(count - 1, 1);
            x.setCost(count, 1);
            x.solve();
            x.getArc(count, 0);
            Check.due("getArcCount() after other calls", x.getArcCount(), count);
            x.addArc(0, 1, 1, 1);
        }
        Check.due("getArcCount() when full", x.getArcCount(), 96);
    }

    private static void arcCountChangesNothing() {
        for (NetworkSimplex x : States.all()) {
            String before = Check.all(x);
            int first = x.getArcCount();
            Check.due("getArcCount() again", x.getArcCount(), first);
            Check.due("after getArcCount()", Check.all(x), before);
        }
    }

    private static void latestSupply() {
        NetworkSimplex x = new NetworkSimplex(24);
        for (int v = 0; v < 24; v++) {
            x.setSupply(v, 5);
            x.setSupply(v, 2 * v - 23);
        }
        x.setSupply(24, 1);
        x.solve();
        for (int v = 0; v < 24; v++) {
            int want = 2 * v - 23;
            Check.due("getSupply(" + v + ")", x.getSupply(v), want < -20 ? -20 : want > 20 ? 20 : want);
        }
    }

    private static void noSupply() {
        for (int nodes = 2; nodes <= 24; nodes++) {
            for (int set = 0; set < nodes; set++) {
                NetworkSimplex x = new NetworkSimplex(nodes);
                x.addArc(0, 1, 9, 9);
                x.setSupply(set, 9);
                x.solve();
                for (int v = 0; v < nodes; v++) {
                    Check.due("getSupply(" + v + ") with " + set + " set", x.getSupply(v), v == set ? 9 : 0);
                }
            }
        }
    }

    /** Supplies of all nodes but none beyond: 20 everywhere. */
    private static NetworkSimplex supplied(int nodes) {
        NetworkSimplex x = new NetworkSimplex(nodes);
        for (int v = -1; v <= 25; v++) {
            x.setSupply(v, 20);
        }
        return x;
    }

    private static void supplyOfNodeTooSmall() {
        for (int nodes = 2; nodes <= 24; nodes++) {
            NetworkSimplex x = supplied(nodes);
            Check.due("getSupply(0)", x.getSupply(0), 20);
            for (int node : Edges.below(0)) {
                Check.due("getSupply(" + node + ") of " + nodes, x.getSupply(node), 0);
            }
        }
    }

    private static void supplyOfNodeTooLarge() {
        for (int nodes = 2; nodes <= 24; nodes++) {
            NetworkSimplex x = supplied(nodes);
            Check.due("getSupply(" + (nodes - 1) + ")", x.getSupply(nodes - 1), 20);
            for (int node : Edges.above(nodes - 1)) {
                Check.due("getSupply(" + node + ") of " + nodes, x.getSupply(node), 0);
            }
        }
    }

    private static void supplyChangesNothing() {
        for (NetworkSimplex x : States.all()) {
            String before = Check.all(x);
            for (int node : Edges.all()) {
                x.getSupply(node);
            }
            Check.due("after getSupply", Check.all(x), before);
        }
    }

    private static void eachFieldOfEachArc() {
        NetworkSimplex x = new NetworkSimplex(24);
        for (int k = 0; k < 96; k++) {
            x.addArc(k % 24, (k + 7) % 24, 20 - k % 20, k - 45);
            for (int arc = 0; arc <= k; arc++) {
                Check.due("tail of " + arc, x.getArc(arc, NetworkSimplex.FIELD_TAIL), arc % 24);
                Check.due("head of " + arc, x.getArc(arc, NetworkSimplex.FIELD_HEAD), (arc + 7) % 24);
                Check.due("capacity of " + arc, x.getArc(arc, NetworkSimplex.FIELD_CAP), 20 - arc % 20);
                Check.due("cost of " + arc, x.getArc(arc, NetworkSimplex.FIELD_COST), arc - 45);
            }
        }
    }

    private static void endsStay() {
        NetworkSimplex x = new NetworkSimplex(24);
        for (int k = 0; k < 96; k++) {
            x.addArc(k % 24, (k + 23 - k / 24) % 24, 1, 1);
            x.addArc(k % 24, k % 24, 1, 1);
            x.setCapacity(k, k);
            x.setCost(k, -k);
            x.solve();
        }
        x.addArc(0, 1, 1, 1);
        for (int k = 0; k < 96; k++) {
            Check.due("tail of " + k, x.getArc(k, NetworkSimplex.FIELD_TAIL), k % 24);
            Check.due("head of " + k, x.getArc(k, NetworkSimplex.FIELD_HEAD), (k + 23 - k / 24) % 24);
        }
    }

    private static void latestCapacity() {
        NetworkSimplex x = new NetworkSimplex(24);
        x.addArc(23, 1, 99, -99);
        x.addArc(2, 22, -99, 99);
        x.addArc(4, 3, 5, -6);
        Check.due("cap from addArc, too large", x.getArc(0, NetworkSimplex.FIELD_CAP), 20);
        Check.due("cap from addArc, too small", x.getArc(1, NetworkSimplex.FIELD_CAP), 0);
        Check.due("cap from addArc", x.getArc(2, NetworkSimplex.FIELD_CAP), 5);
        x.setCapacity(0, -1);
        Check.due("cap set too small", x.getArc(0, NetworkSimplex.FIELD_CAP), 0);
        x.setCapacity(0, 8);
        x.setCapacity(1, 17);
        x.setCapacity(1, 21);
        x.setCapacity(3, 9);
        x.setCost(2, 13);
        x.solve();
        Check.due("cap set twice", x.getArc(0, NetworkSimplex.FIELD_CAP), 8);
        Check.due("cap set too large", x.getArc(1, NetworkSimplex.FIELD_CAP), 20);
        Check.due("cap not set", x.getArc(2, NetworkSimplex.FIELD_CAP), 5);
    }

    private static void latestCost() {
        NetworkSimplex x = new NetworkSimplex(24);
        x.addArc(23, 1, 99, -99);
        x.addArc(2, 22, -99, 99);
        x.addArc(4, 3, 5, -6);
        Check.due("cost from addArc, too small", x.getArc(0, NetworkSimplex.FIELD_COST), -50);
        Check.due("cost from addArc, too large", x.getArc(1, NetworkSimplex.FIELD_COST), 50);
        Check.due("cost from addArc", x.getArc(2, NetworkSimplex.FIELD_COST), -6);
        x.setCost(0, 1000);
        Check.due("cost set too large", x.getArc(0, NetworkSimplex.FIELD_COST), 50);
        x.setCost(0, 13);
        x.setCost(1, 17);
        x.setCost(1, -51);
        x.setCost(3, 9);
        x.setCapacity(2, 13);
        x.solve();
        Check.due("cost set twice", x.getArc(0, NetworkSimplex.FIELD_COST), 13);
        Check.due("cost set too small", x.getArc(1, NetworkSimplex.FIELD_COST), -50);
        Check.due("cost not set", x.getArc(2, NetworkSimplex.FIELD_COST), -6);
    }

    /** So many arcs of which no field is 0. */
    private static NetworkSimplex withArcs(int count) {
        NetworkSimplex x = new NetworkSimplex(3);
        for (int k = 0; k < count; k++) {
            x.addArc(1, 2, 9, 9);
        }
        return x;
    }

    private static void arcTooSmall() {
        for (int count : new int[] {0, 1, 2, 95, 96}) {
            NetworkSimplex x = withArcs(count);
            for (int arc : Edges.below(0)) {
                for (int field = 0; field < 4; field++) {
                    Check.due("getArc(" + arc + ", " + field + ") of " + count + " arcs", x.getArc(arc, field), 0);
                }
            }
        }
    }

    private static void arcTooLarge() {
        for (int count : new int[] {0, 1, 2, 95, 96}) {
            NetworkSimplex x = withArcs(count);
            for (int arc : Edges.above(count - 1)) {
                for (int field = 0; field < 4; field++) {
                    Check.due("getArc(" + arc + ", " + field + ") of " + count + " arcs", x.getArc(arc, field), 0);
                }
            }
        }
    }

    private static void wrongField(int field) {
        NetworkSimplex x = withArcs(96);
        for (int arc : new int[] {0, 1, 50, 95, 96, -1, Integer.MIN_VALUE, Integer.MAX_VALUE}) {
            Check.due("getArc(" + arc + ", " + field + ")", x.getArc(arc, field), 0);
        }
    }

    private static void fieldTooSmall() {
        for (int field : Edges.below(0)) {
            wrongField(field);
        }
    }

    private static void fieldTooLarge() {
        for (int field : Edges.above(3)) {
            wrongField(field);
        }
    }

    private static void arcChangesNothing() {
        for (NetworkSimplex x : States.all()) {
            String before = Check.all(x);
            for (int value : Edges.all()) {
                x.getArc(value, NetworkSimplex.FIELD_CAP);
                x.getArc(0, value);
                x.getArc(value, value);
            }
            Check.due("after getArc", Check.all(x), before);
        }
    }
}
