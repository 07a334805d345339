/** Promise 4: setCapacity's refusals, clamp and RESET. */
public final class Promise04SetCapacityTest {
    public static void main(String[] args) {
        Check.sentence("`setCapacity(arc, cap)` is refused when `arc < 0`", Promise04SetCapacityTest::arcTooSmall);
        Check.sentence("or `arc >= getArcCount()`", Promise04SetCapacityTest::arcTooLarge);
        Check.sentence("it answers false and changes nothing (the result is not RESET)",
            Promise04SetCapacityTest::refusalsLeaveNothingBehind);
        Check.sentence("Otherwise ... true is answered: the first and the last arc",
            Promise04SetCapacityTest::everyArcIsTaken);
        Check.sentence("`cap` is clamped into [0, 20] and stored as cap_arc: too small",
            Promise04SetCapacityTest::capTooSmall);
        Check.sentence("`cap` is clamped into [0, 20] and stored as cap_arc: too large",
            Promise04SetCapacityTest::capTooLarge);
        Check.sentence("`cap` is clamped into [0, 20] and stored as cap_arc: within",
            Promise04SetCapacityTest::capWithin);
        Check.sentence("the result is RESET", Promise04SetCapacityTest::anotherValueResets);
        Check.sentence("The RESET happens even if the stored value is unchanged",
            Promise04SetCapacityTest::sameValueResets);
        Check.sentence("A successful call changes only that arc's capacity (and the result)",
            Promise04SetCapacityTest::changesOneCapacity);
        Check.sentence("The arc's tail, head and cost, all other arcs, the arc count, the supplies and the node count"
            + " stay as they were", Promise04SetCapacityTest::keepsTheRest);
        Check.end();
    }

    private static void refused(NetworkSimplex x, int arc, int cap) {
        String before = Check.all(x);
        String call = "setCapacity(" + arc + ", " + cap + ") of " + x.getArcCount() + " arcs";
        Check.due(call, x.setCapacity(arc, cap), false);
        Check.due("after " + call, Check.all(x), before);
    }

    private static void arcTooSmall() {
        for (NetworkSimplex x : States.all()) {
            for (int arc : Edges.below(0)) {
                refused(x, arc, 9);
            }
        }
    }

    private static void arcTooLarge() {
        for (NetworkSimplex x : States.all()) {
            for (int arc : Edges.above(x.getArcCount() - 1)) {
                refused(x, arc, 9);
            }
        }
    }

    /** An arc added later must not find what a refused call gave for its number. */
    private static void refusalsLeaveNothingBehind() {
        for (NetworkSimplex x : States.all()) {
            for (int arc : Edges.outside(x.getArcCount())) {
                x.setCapacity(arc, 9);
            }
            x.addArc(0, 1, 1, 1);
            Check.solvesLikeNew("after refused capacities", x);
        }
    }

    private static void everyArcIsTaken() {
        NetworkSimplex x = new NetworkSimplex(2);
        for (int count = 1; count <= 96; count++) {
            x.addArc(0, 1, 3, 3);
            for (int arc : new int[] {0, count / 2, count - 1}) {
                Check.due("setCapacity(" + arc + ", 4) of " + count + " arcs", x.setCapacity(arc, 4), true);
                Check.due("capacity of " + arc, x.getArc(arc, NetworkSimplex.FIELD_CAP), 4);
            }
        }
    }

    private static void stores(NetworkSimplex x, int arc, int cap, int want) {
        Check.due("setCapacity(" + arc + ", " + cap + ")", x.setCapacity(arc, cap), true);
        Check.due("capacity of " + arc + " given " + cap, x.getArc(arc, NetworkSimplex.FIELD_CAP), want);
    }

    private static void capTooSmall() {
        NetworkSimplex x = States.ring(24, 5);
        for (int arc = 0; arc < 96; arc++) {
            x.setCapacity(arc, 10);
            stores(x, arc, -1, 0);
            for (int cap : Edges.below(0)) {
                x.setCapacity(arc, 10);
                stores(x, arc, cap, 0);
            }
            x.setCapacity(arc, 10);
            stores(x, arc, Integer.MIN_VALUE, 0);
        }
    }

    private static void capTooLarge() {
        NetworkSimplex x = States.ring(24, 5);
        for (int arc = 0; arc < 96; arc++) {
            x.setCapacity(arc, 10);
            stores(x, arc, 21, 20);
            for (int cap : Edges.above(20)) {
                x.setCapacity(arc, 10);
                stores(x, arc, cap, 20);
            }
            x.setCapacity(arc, 10);
            stores(x, arc, Integer.MAX_VALUE, 20);
        }
    }

    private static void capWithin() {
        NetworkSimplex x = States.ring(24, 5);
        for (int arc = 0; arc < 96; arc++) {
            for (int cap = 0; cap <= 20; cap++) {
                stores(x, arc, cap, cap);
            }
        }
    }

    private static void anotherValueResets() {
        for (NetworkSimplex x : States.all()) {
            int arc = x.getArcCount() - 1;
            if (arc >= 0) {
                int cap = x.getArc(arc, NetworkSimplex.FIELD_CAP);
                Check.due("setCapacity to another", x.setCapacity(arc, cap == 0 ? 1 : cap - 1), true);
                Check.due("result after another capacity", Check.result(x), Check.NO_RESULT);
            }
        }
    }

    private static void sameValueResets() {
        for (NetworkSimplex x : States.all()) {
            int arc = x.getArcCount() - 1;
            if (arc >= 0) {
                String before = Check.network(x);
                Check.due("setCapacity to the same", x.setCapacity(arc, x.getArc(arc, NetworkSimplex.FIELD_CAP)), true);
                Check.due("after the same capacity", Check.all(x), Check.NO_RESULT + " " + before);
            }
        }
        NetworkSimplex y = new NetworkSimplex(2);
        y.addArc(0, 1, 20, 1);
        y.addArc(0, 1, 0, 1);
        y.solve();
        y.setCapacity(0, 21);
        Check.due("after 21 is clamped to the same 20", Check.result(y), Check.NO_RESULT);
        y.solve();
        y.setCapacity(1, -1);
        Check.due("after -1 is clamped to the same 0", Check.result(y), Check.NO_RESULT);
    }

    private static void changesOneCapacity() {
        NetworkSimplex x = States.optimal();
        x.setCapacity(1, 3);
        Check.due("after setCapacity(1, 3)", Check.all(x), Check.NO_RESULT + " nodes 3 supplies 0 4 0 -4 0 arcs 2"
            + " | 0 0 0 0 0 0 | 0 0 1 6 3 0 | 0 1 2 3 -1 0 | 0 0 0 0 0 0");
        x.solve();
        Check.due("with less capacity", Check.result(x), "status 2 cost 0 shortfall 1 witness 1: 2");
        x.setCapacity(1, 4);
        x.solve();
        Check.due("with enough capacity", Check.result(x), "status 1 cost 8 shortfall 0 witness 0:");
    }

    private static void keepsTheRest() {
        NetworkSimplex x = States.ring(24, 5);
        x.setSupply(3, 11);
        String supplies = Check.supplies(x);
        for (int arc = 0; arc < 96; arc++) {
            int[][] want = Check.arcs(x);
            want[arc][NetworkSimplex.FIELD_CAP] = 20 - want[arc][NetworkSimplex.FIELD_CAP];
            x.setCapacity(arc, want[arc][NetworkSimplex.FIELD_CAP]);
            Check.due("arcs after capacity " + arc, Check.arcs(x), want);
            Check.due("nodes and supplies after capacity " + arc, Check.supplies(x), supplies);
        }
    }
}
