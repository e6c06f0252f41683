import java.util.NoSuchElementException;

/** Promises 13 to 18: the hierarchy and its arcs. */
public final class HierarchyTest {
    private static final Class<IndexOutOfBoundsException> INDEX = IndexOutOfBoundsException.class;
    private static final Class<IllegalStateException> STATE = IllegalStateException.class;
    private static final Class<NoSuchElementException> NONE = NoSuchElementException.class;
    private static final Check check = new Check();

    public static void main(String[] args) {
        prepare();
        isPrepared();
        position();
        arcCount();
        hasArc();
        arcCost();
        anArcGoesOverLowerRoadsOnly();
        check.finish("HierarchyTest");
    }

    /** Taking road 0 of a ring adds a shortcut from road 2 to road 1. */
    private static RoadOracle ring() {
        return Build.network(3, 0, 1, 5, 1, 2, 7, 2, 0, 9);
    }

    private static void prepare() {
        RoadOracle x = new RoadOracle();
        check.fails("13: without roads", STATE, () -> x.prepare());
        x.addJunction();
        x.addJunction();
        check.fails("13: without roads", STATE, () -> x.prepare());
        check.same("13: isPrepared()", x.isPrepared(), false);
        x.addRoad(0, 1, 1);
        check.same("13: one road", x.prepare(), 0);
        RoadOracle ring = ring();
        check.same("13: a ring", ring.prepare(), 1);
        long digest = ring.digest();
        check.same("13: once more", ring.prepare(), 1);
        check.same("13: digest()", ring.digest(), digest);
        ring.setOpen(0, false);
        check.same("13: with a closed road", ring.prepare(), 1);
        ring.addRoad(1, 0, 3);
        check.same("13: with a new road", ring.prepare() > 0, true);
        RoadOracle full = Build.full();
        // Taking the first road bridges all that lead the other way; taking the others adds nothing.
        check.same("13: 64 roads, each followed by 32", full.prepare(), 32 * 31);
        RoadOracle closed = ring();
        closed.setOpen(0, false);
        closed.setTurn(1, 2, -1);
        check.same("13: closures and turns do not matter", closed.prepare(), 1);
        check.same("13: nor for the arcs", closed.arcCount(), 4);
    }

    private static void isPrepared() {
        RoadOracle x = ring();
        check.same("14: at first", x.isPrepared(), false);
        x.prepare();
        check.same("14: prepared", x.isPrepared(), true);
        x.setWeight(0, 1);
        x.setOpen(0, false);
        x.setTurn(0, 1, 5);
        x.setUTurn(5);
        x.push();
        x.pop();
        x.addJunction();
        check.same("14: changes of costs keep it", x.isPrepared(), true);
        check.fails("14: a failed addRoad", IllegalArgumentException.class, () -> x.addRoad(0, 0, 1));
        check.same("14: keeps it", x.isPrepared(), true);
        x.addRoad(0, 2, 1);
        check.same("14: addRoad discards it", x.isPrepared(), false);
    }

    private static void position() {
        RoadOracle x = Build.network(4, 0, 1, 1, 1, 2, 1, 2, 3, 1);
        check.fails("15: without a hierarchy", STATE, () -> x.position(0));
        check.fails("15: the state comes first", STATE, () -> x.position(9));
        x.prepare();
        for (int road = 0; road < 3; road++) {
            check.same("15: a chain is taken in order", x.position(road), road);
        }
        check.fails("15: road 3", INDEX, () -> x.position(3));
        check.fails("15: road -1", INDEX, () -> x.position(-1));
        // Road 1 has 2 arcs into it and 2 out of it; the others have none on one side.
        RoadOracle y = Build.prepared(6, 2, 3, 1, 0, 2, 1, 1, 2, 1, 3, 4, 1, 3, 5, 1);
        int[] due = {2, 0, 1, 3, 4};
        for (int road = 0; road < 5; road++) {
            check.same("15: position(" + road + ")", y.position(road), due[road]);
        }
    }

    private static void arcCount() {
        RoadOracle x = ring();
        check.same("16: without a hierarchy", x.arcCount(), 0);
        x.prepare();
        check.same("16: three turns and a shortcut", x.arcCount(), 4);
        x.setOpen(0, false);
        check.same("16: with a closed road", x.arcCount(), 4);
        x.addRoad(0, 2, 1);
        check.same("16: without a hierarchy", x.arcCount(), 0);
        check.same("16: one road", Build.prepared(2, 0, 1, 1).arcCount(), 0);
        RoadOracle full = Build.full();
        full.prepare();
        check.same("16: 64 roads", full.arcCount(), 64 * 32 + 32 * 31);
    }

    private static void hasArc() {
        RoadOracle x = ring();
        check.fails("17: without a hierarchy", STATE, () -> x.hasArc(0, 1));
        check.fails("17: the state comes first", STATE, () -> x.hasArc(-1, 9));
        x.setTurn(0, 1, -1);
        x.prepare();
        boolean[][] due = {{false, true, false}, {false, false, true}, {true, true, false}};
        for (int first = 0; first < 3; first++) {
            for (int second = 0; second < 3; second++) {
                check.same("17: hasArc(" + first + ", " + second + ")",
                        x.hasArc(first, second), due[first][second]);
            }
        }
        check.fails("17: road 3", INDEX, () -> x.hasArc(3, 0));
        check.fails("17: road 3", INDEX, () -> x.hasArc(0, 3));
        check.fails("17: road -1", INDEX, () -> x.hasArc(0, -1));
    }

    private static void arcCost() {
        RoadOracle x = ring();
        check.fails("18: without a hierarchy", STATE, () -> x.arcCost(0, 1));
        check.fails("18: the state comes first", STATE, () -> x.arcCost(-1, 9));
        x.prepare();
        check.same("18: arcCost(0, 1)", x.arcCost(0, 1), 7);
        check.same("18: arcCost(1, 2)", x.arcCost(1, 2), 9);
        check.same("18: arcCost(2, 0)", x.arcCost(2, 0), 5);
        check.same("18: arcCost(2, 1), a shortcut", x.arcCost(2, 1), 12);
        check.fails("18: no arc", NONE, () -> x.arcCost(0, 2));
        check.fails("18: no arc", NONE, () -> x.arcCost(1, 1));
        check.fails("18: road 3", INDEX, () -> x.arcCost(0, 3));
        check.fails("18: road -1", INDEX, () -> x.arcCost(-1, 0));
        x.setTurn(0, 1, 30);
        check.same("18: with a penalty", x.arcCost(2, 1), 42);
        x.setTurn(0, 1, -1);
        check.same("18: over a forbidden turn", x.arcCost(2, 1), -1);
        x.setTurn(0, 1, -2);
        x.setOpen(1, false);
        check.same("18: to a closed road", x.arcCost(2, 1), -1);
        check.same("18: from a closed road", x.arcCost(1, 2), -1);
        check.same("18: beside it", x.arcCost(2, 0), 5);
    }

    private static void anArcGoesOverLowerRoadsOnly() {
        // The loop 2, 3 is the better way from 0 to 1, but road 0 is taken first of all.
        RoadOracle x = Build.prepared(4, 0, 1, 1, 1, 2, 1, 1, 3, 1, 3, 1, 1);
        x.setTurn(0, 1, 1000);
        check.same("18: position(0)", x.position(0), 0);
        check.same("18: arcCost(0, 1)", x.arcCost(0, 1), 1001);
        check.same("18: distance(0, 2)", x.distance(0, 2), 104);
        // Here the loop 0, 1 is taken first, so the arc from 2 to 3 goes over it if that is better.
        RoadOracle y = Build.prepared(3, 1, 2, 3, 2, 1, 4, 0, 1, 6, 1, 0, 5);
        check.same("18: prepare()", y.prepare(), 1);
        for (int road = 0; road < 4; road++) {
            check.same("18: position(" + road + ")", y.position(road), road);
        }
        check.same("18: arcCost(2, 3), turning back", y.arcCost(2, 3), 105);
        check.same("18: setTurn(0, 1, 0)", y.setTurn(0, 1, 0), 3);
        check.same("18: arcCost(2, 3), over the loop", y.arcCost(2, 3), 12);
        check.same("18: arcCost(2, 1), a shortcut", y.arcCost(2, 1), 7);
        check.same("18: setTurn(0, 1, -1)", y.setTurn(0, 1, -1), 3);
        check.same("18: arcCost(2, 3), turning back", y.arcCost(2, 3), 105);
    }
}
