/**
 * Promises 13 to 18 and what the Description says of the hierarchy, sentence by sentence: no road,
 * one road and 64 roads, ties, arcs without a cost, and the first numbers that are refused.
 */
public final class EdgeHierarchyTest extends Edge {
    public static void main(String[] args) {
        prepare();
        onlyAddRoadDiscards();
        positions();
        arcs();
        costs();
        check.finish("EdgeHierarchyTest");
    }

    /** Road 0 leads to roads 1 and 2 side by side, these to road 3, and it back to road 0. */
    private static RoadOracle sideBySide() {
        return Build.network(3, 0, 1, 5, 1, 2, 7, 1, 2, 8, 2, 0, 9);
    }

    // ---- Promise 13

    private static void prepare() {
        prepareNeedsARoad();
        prepareBuildsOnce();
        aShortcutIsAddedOnce();
        noShortcutFromARoadToItself();
        roadsAreTakenOpenOrNot();
    }

    /** Promise 13: "Throws IllegalStateException if there are no roads", with 0 and with 32 junctions. */
    private static void prepareNeedsARoad() {
        RoadOracle x = new RoadOracle();
        for (int i = 0; i <= 32; i++) {
            check.fails("13: without roads", STATE, x::prepare);
            check.same("14: isPrepared()", x.isPrepared(), false);
            if (i < 32) {
                x.addJunction();
            }
        }
        x.addRoad(0, 31, 1);
        check.same("13: one road is enough", x.prepare(), 0);
        check.same("14: isPrepared()", x.isPrepared(), true);
        check.same("15: position(0)", x.position(0), 0);
    }

    /** Promise 13: "Builds the hierarchy, if there is none. Returns the number of its shortcuts." */
    private static void prepareBuildsOnce() {
        RoadOracle x = sideBySide();
        check.same("13: the first time", x.prepare(), 1);
        long digest = x.digest();
        check.same("13: the second time", x.prepare(), 1);
        check.same("32: nothing has changed", x.digest(), digest);
        x.addRoad(0, 2, 1);
        check.same("13: with a road from 3 to 3, which is taken last", x.prepare(), 1);
        check.same("16: seven turns and a shortcut", x.arcCount(), 8);
        int[] due = {2, 0, 1, 3, 4};
        for (int road = 0; road < due.length; road++) {
            check.same("15: position(" + road + ")", x.position(road), due[road]);
        }
    }

    /**
     * Description: "an arc from u to w is added .. unless there is an arc from u to w already." Roads 1
     * and 2 are taken first, and both ask for the arc from 0 to 3.
     */
    private static void aShortcutIsAddedOnce() {
        RoadOracle x = sideBySide();
        check.same("13: prepare()", x.prepare(), 1);
        check.same("16: five turns and a shortcut", x.arcCount(), 6);
        int[] due = {2, 0, 1, 3};
        for (int road = 0; road < 4; road++) {
            check.same("15: position(" + road + ")", x.position(road), due[road]);
        }
        check.same("17: the shortcut", x.hasArc(0, 3), true);
    }

    /** Description: "u and w different from v and from each other". */
    private static void noShortcutFromARoadToItself() {
        RoadOracle x = Build.prepared(2, 0, 1, 5, 1, 0, 6);
        check.same("13: prepare()", x.prepare(), 0);
        check.same("17: hasArc(0, 0)", x.hasArc(0, 0), false);
        check.same("17: hasArc(1, 1)", x.hasArc(1, 1), false);
        check.fails("18: arcCost(1, 1)", NONE, () -> x.arcCost(1, 1));
        RoadOracle full = Build.full();
        full.prepare();
        for (int road = 0; road < 64; road++) {
            check.same("17: hasArc from a road to itself", full.hasArc(road, road), false);
        }
    }

    /**
     * Description: "an order of all roads, open or not", and "At first there is an arc from a to b if b
     * follows a, whatever the setting of the turn is."
     */
    private static void roadsAreTakenOpenOrNot() {
        RoadOracle x = sideBySide();
        for (int road = 0; road < 4; road++) {
            x.setOpen(road, false);
        }
        int[][] turns = {{0, 1}, {0, 2}, {1, 3}, {2, 3}, {3, 0}};
        for (int[] turn : turns) {
            x.setTurn(turn[0], turn[1], FORBIDDEN);
        }
        x.setUTurn(FORBIDDEN);
        check.same("13: prepare()", x.prepare(), 1);
        check.same("16: arcCount()", x.arcCount(), 6);
        int[] due = {2, 0, 1, 3};
        for (int road = 0; road < 4; road++) {
            check.same("15: position(" + road + ")", x.position(road), due[road]);
        }
        for (int[] turn : turns) {
            check.same("17: an arc", x.hasArc(turn[0], turn[1]), true);
            check.same("18: without a cost", x.arcCost(turn[0], turn[1]), -1);
        }
        check.same("18: arcCost(0, 3)", x.arcCost(0, 3), -1);
        check.same("19: distance(0, 1)", x.distance(0, 1), -1);
        check.same("19: distance(0, 0)", x.distance(0, 0), 0);
    }

    // ---- Promise 14

    /**
     * Description: "addRoad discards the hierarchy. No other method does so". Promise 14: "Returns
     * whether there is a hierarchy."
     */
    private static void onlyAddRoadDiscards() {
        RoadOracle x = sideBySide();
        check.same("14: before prepare", x.isPrepared(), false);
        x.prepare();
        x.addJunction();
        x.setWeight(0, 10000);
        x.setOpen(0, false);
        x.setOpen(0, true);
        x.setTurn(0, 1, FORBIDDEN);
        x.setUTurn(FORBIDDEN);
        x.setPlace(0, 0, true);
        x.push();
        x.pop();
        check.same("14: behind all others", x.isPrepared(), true);
        theyAskOnly(x);
        check.same("14: behind questions", x.isPrepared(), true);
        check.same("16: arcCount()", x.arcCount(), 6);
        x.addRoad(0, 1, 1);
        check.same("14: behind addRoad", x.isPrepared(), false);
        x.push();
        x.pop();
        check.same("31: pop brings no hierarchy back", x.isPrepared(), false);
        check.fails("15: position(0)", STATE, () -> x.position(0));
    }

    private static void theyAskOnly(RoadOracle x) {
        x.distance(0, 2);
        x.distanceBehind(0, 2);
        x.route(0, 2);
        x.reach(0, 100);
        x.averageDistance(0);
        x.detour(0, 2, 2);
        x.nearest(0, 0);
        x.digest();
        x.hasArc(0, 1);
        x.arcCost(0, 1);
        check.fails("18: refused calls too", NONE, () -> x.arcCost(0, 0));
    }

    // ---- Promise 15

    private static void positions() {
        ofSeveralTheSmallestNumber();
        theSmallestProduct();
        positionOfRoadsThatAreThere();
    }

    /** Description: "of several, the one with the smallest number", here of 64 with the product 0. */
    private static void ofSeveralTheSmallestNumber() {
        RoadOracle x = Build.network(2);
        for (int i = 0; i < 64; i++) {
            x.addRoad(0, 1, 64 - i);
        }
        x.prepare();
        for (int i = 0; i < 64; i++) {
            check.same("15: position(" + i + ")", x.position(i), i);
        }
        RoadOracle full = Build.full();
        full.prepare();
        // All products are 32 * 32. Behind road 0 those of the odd roads are larger, until 62 is the
        // only even road that is left: then all are the same again, down to 1 for 62 and 63.
        for (int i = 0; i < 62; i++) {
            check.same("15: position(" + i + ")", full.position(i), i % 2 == 0 ? i / 2 : 31 + i / 2);
        }
        check.same("15: position(62)", full.position(62), 62);
        check.same("15: position(63)", full.position(63), 63);
    }

    /**
     * Description: "the smallest product of the number of arcs that lead to v from roads that have not
     * been taken, and the number of arcs that lead from v to roads that have not been taken".
     */
    private static void theSmallestProduct() {
        // The products at first: 2 * 2 for road 0, 0 for the others; then, without 1 and 2, 0 for it too.
        RoadOracle star = Build.prepared(6, 2, 3, 1, 0, 2, 1, 1, 2, 1, 3, 4, 1, 3, 5, 1);
        int[] due = {2, 0, 1, 3, 4};
        for (int road = 0; road < due.length; road++) {
            check.same("15: position(" + road + ")", star.position(road), due[road]);
        }
        // A ring: all products are 1, and stay so, as each shortcut stands for two arcs.
        RoadOracle ring = Build.network(32);
        for (int i = 0; i < 32; i++) {
            ring.addRoad(i, (i + 1) % 32, 1);
        }
        check.same("13: a shortcut for each road but the last two", ring.prepare(), 30);
        for (int road = 0; road < 32; road++) {
            check.same("15: position(" + road + ")", ring.position(road), road);
        }
    }

    /**
     * Promise 15: "Throws IllegalStateException if there is no hierarchy", first, and "Throws
     * IndexOutOfBoundsException if there is no such road", for 1 to 64 roads.
     */
    private static void positionOfRoadsThatAreThere() {
        RoadOracle x = Build.network(2);
        for (int i = 0; i < 64; i++) {
            int next = i + 1;
            x.addRoad(0, 1, 1);
            check.fails("15: without a hierarchy", STATE, () -> x.position(0));
            check.fails("15: without a hierarchy", STATE, () -> x.position(next));
            x.prepare();
            check.same("15: the last road", x.position(i), i);
            check.fails("15: the one behind it", INDEX, () -> x.position(next));
        }
        for (int number : NO_ROADS) {
            check.fails("15: road " + number, INDEX, () -> x.position(number));
        }
    }

    // ---- Promises 16 and 17

    private static void arcs() {
        noArcsWithoutAHierarchy();
        arcsOfRoadsThatAreThere();
        noRoadsThatFollow();
    }

    /** Promise 16: "Returns the number of arcs, shortcuts included; 0 if there is no hierarchy." */
    private static void noArcsWithoutAHierarchy() {
        RoadOracle x = sideBySide();
        check.same("16: before prepare", x.arcCount(), 0);
        x.prepare();
        check.same("16: five turns and a shortcut", x.arcCount(), 6);
        x.addRoad(0, 1, 1);
        check.same("16: behind addRoad", x.arcCount(), 0);
        RoadOracle full = Build.full();
        check.same("16: before prepare", full.arcCount(), 0);
        full.prepare();
        check.same("16: 64 roads", full.arcCount(), 64 * 32 + 32 * 31);
    }

    /**
     * Promises 17 and 18: "Throws IllegalStateException if there is no hierarchy", first, and "Throws
     * IndexOutOfBoundsException if there is no such road", before there is no arc.
     */
    private static void arcsOfRoadsThatAreThere() {
        RoadOracle x = Build.full();
        for (int number : NO_ROADS) {
            check.fails("17: no hierarchy", STATE, () -> x.hasArc(number, number));
            check.fails("18: no hierarchy", STATE, () -> x.arcCost(number, number));
        }
        x.prepare();
        for (int number : NO_ROADS) {
            check.fails("17: first " + number, INDEX, () -> x.hasArc(number, 0));
            check.fails("17: second " + number, INDEX, () -> x.hasArc(0, number));
            check.fails("18: first " + number, INDEX, () -> x.arcCost(number, 0));
            check.fails("18: second " + number, INDEX, () -> x.arcCost(0, number));
        }
        check.same("17: hasArc(63, 0)", x.hasArc(63, 0), true);
        check.same("17: hasArc(0, 63)", x.hasArc(0, 63), true);
        check.same("17: hasArc(62, 0), which is none", x.hasArc(62, 0), false);
        check.same("18: arcCost(63, 0)", x.arcCost(63, 0), 101);
        check.same("18: arcCost(0, 63)", x.arcCost(0, 63), 164);
        check.fails("18: arcCost(62, 0)", NONE, () -> x.arcCost(62, 0));
    }

    /** Promises 16 to 18: "Throws java.util.NoSuchElementException if there is no arc", as there is none at all. */
    private static void noRoadsThatFollow() {
        RoadOracle x = Build.prepared(4, 0, 1, 5, 2, 3, 6);
        check.same("16: arcCount()", x.arcCount(), 0);
        for (int i = 0; i < 4; i++) {
            int first = i / 2;
            int second = i % 2;
            check.same("17: hasArc", x.hasArc(first, second), false);
            check.fails("18: arcCost", NONE, () -> x.arcCost(first, second));
        }
    }

    // ---- Promise 18

    private static void costs() {
        theLeastAndTheGreatestCost();
        arcsWithoutACost();
        betweenAreRoadsOfSmallerPositions();
        theCheapestOfSeveralWays();
    }

    /** Description: the cost of an arc is "its cost without the weight of a": from 1 to 11000 for one turn. */
    private static void theLeastAndTheGreatestCost() {
        RoadOracle x = Build.prepared(3, 0, 1, 10000, 1, 2, 1);
        check.same("18: the least", x.arcCost(0, 1), 1);
        x.setWeight(1, 10000);
        x.setTurn(0, 1, 1000);
        check.same("18: the greatest", x.arcCost(0, 1), 11000);
        x.setWeight(0, 1);
        check.same("18: the first road does not count", x.arcCost(0, 1), 11000);
        x.setTurn(0, 1, 0);
        check.same("18: a penalty of 0", x.arcCost(0, 1), 10000);
    }

    /**
     * Description: "If there is no such path (for instance, if a or b is closed), the arc has no cost."
     * Promise 18: "-1 if it has none".
     */
    private static void arcsWithoutACost() {
        RoadOracle x = Build.prepared(3, 0, 1, 5, 1, 2, 7, 2, 0, 9);
        check.same("18: the shortcut over road 0", x.arcCost(2, 1), 12);
        int[][] due = {{-1, 9, -1, -1}, {-1, -1, 5, -1}, {7, -1, -1, -1}};
        for (int road = 0; road < 3; road++) {
            x.setOpen(road, false);
            theCosts(x, due[road]);
            x.setOpen(road, true);
            theCosts(x, new int[] {7, 9, 5, 12});
        }
        x.setTurn(2, 0, FORBIDDEN);
        theCosts(x, new int[] {7, 9, -1, -1});
        x.setTurn(0, 1, FORBIDDEN);
        theCosts(x, new int[] {-1, 9, -1, -1});
        x.setTurn(2, 0, DEFAULT);
        theCosts(x, new int[] {-1, 9, 5, -1});
    }

    private static void theCosts(RoadOracle x, int[] due) {
        check.same("18: arcCost(0, 1)", x.arcCost(0, 1), due[0]);
        check.same("18: arcCost(1, 2)", x.arcCost(1, 2), due[1]);
        check.same("18: arcCost(2, 0)", x.arcCost(2, 0), due[2]);
        check.same("18: arcCost(2, 1)", x.arcCost(2, 1), due[3]);
    }

    /** Description: "all roads between a and b have smaller positions than both a and b". */
    private static void betweenAreRoadsOfSmallerPositions() {
        // The loop 2, 3 is the better way from road 0 to road 1, but road 0 is the lowest of all.
        RoadOracle x = Build.prepared(4, 0, 1, 1, 1, 2, 1, 1, 3, 1, 3, 1, 1);
        x.setTurn(0, 1, 1000);
        check.same("15: position(0)", x.position(0), 0);
        check.same("18: not over the loop 2, 3, which is higher", x.arcCost(0, 1), 1001);
        check.same("20: though this is the way to go", x.distanceBehind(0, 2), 103);
        // Of the ring 0, 1, 2 the arc from 2 to 1 may go over 0, that from 0 to 1 not over 2.
        RoadOracle ring = Build.prepared(3, 0, 1, 5, 1, 2, 7, 2, 0, 9);
        check.same("18: arcCost(2, 1)", ring.arcCost(2, 1), 12);
        check.fails("18: no arc from 1 to 0 over 2", NONE, () -> ring.arcCost(1, 0));
        check.fails("18: no arc from 0 to 2 over 1", NONE, () -> ring.arcCost(0, 2));
    }

    /** Description: "the least cost of getting from the end of a to the end of b". */
    private static void theCheapestOfSeveralWays() {
        RoadOracle x = sideBySide();
        x.prepare();
        check.same("18: over road 1", x.arcCost(0, 3), 16);
        x.setWeight(1, 8);
        check.same("18: over either", x.arcCost(0, 3), 17);
        x.setWeight(1, 9);
        check.same("18: over road 2", x.arcCost(0, 3), 17);
        x.setTurn(0, 2, 1);
        check.same("18: over either, with a penalty", x.arcCost(0, 3), 18);
        x.setTurn(2, 3, 1);
        check.same("18: over road 1", x.arcCost(0, 3), 18);
        x.setOpen(1, false);
        check.same("18: over road 2, with two penalties", x.arcCost(0, 3), 19);
    }
}
