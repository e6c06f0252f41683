import java.util.NoSuchElementException;

/** Promises 19 to 27: distances and paths. */
public final class DistanceTest {
    private static final int MIN = Integer.MIN_VALUE;
    private static final int MAX = Integer.MAX_VALUE;
    private static final Class<IndexOutOfBoundsException> INDEX = IndexOutOfBoundsException.class;
    private static final Class<IllegalArgumentException> ARGUMENT = IllegalArgumentException.class;
    private static final Class<IllegalStateException> STATE = IllegalStateException.class;
    private static final Class<NoSuchElementException> NONE = NoSuchElementException.class;
    private static final Check check = new Check();

    public static void main(String[] args) {
        withoutAHierarchy();
        wrongNumbers();
        distance();
        theLongestPath();
        distanceBehind();
        route();
        fewestRoadsFirst();
        smallestNumbersFirst();
        keptRoute();
        reach();
        keptReach();
        averageDistance();
        detour();
        atTheLimits();
        check.finish("DistanceTest");
    }

    /** All these methods need a hierarchy, whatever else is wrong. */
    private static void withoutAHierarchy() {
        RoadOracle x = Build.network(2, 0, 1, 3);
        for (int number : new int[] {0, -1, 9, MIN, MAX}) {
            check.fails("19: distance", STATE, () -> x.distance(number, 1));
            check.fails("20: distanceBehind", STATE, () -> x.distanceBehind(number, 1));
            check.fails("21: route", STATE, () -> x.route(number, 0));
            check.fails("24: reach", STATE, () -> x.reach(number, number));
            check.fails("26: averageDistance", STATE, () -> x.averageDistance(number));
            check.fails("27: detour", STATE, () -> x.detour(1, number, number));
        }
        check.fails("19: without roads", STATE, () -> new RoadOracle().distance(0, 0));
    }

    private static void wrongNumbers() {
        RoadOracle x = Build.prepared(2, 0, 1, 3);
        for (int number : new int[] {-1, 2, 32, 64, MIN, MAX}) {
            check.fails("19: distance", INDEX, () -> x.distance(number, 1));
            check.fails("19: distance", INDEX, () -> x.distance(1, number));
            check.fails("20: distanceBehind", INDEX, () -> x.distanceBehind(number, 1));
            check.fails("20: distanceBehind", INDEX, () -> x.distanceBehind(0, number));
            check.fails("21: route", INDEX, () -> x.route(number, 0));
            check.fails("21: route", INDEX, () -> x.route(1, number));
            check.fails("24: reach", INDEX, () -> x.reach(number, -1));
            check.fails("26: averageDistance", INDEX, () -> x.averageDistance(number));
            check.fails("27: detour", INDEX, () -> x.detour(number, 0, 0));
            check.fails("27: detour", INDEX, () -> x.detour(1, number, 0));
            check.fails("27: detour, where no path is", INDEX, () -> x.detour(1, 0, number));
        }
        check.fails("20: road 1", INDEX, () -> x.distanceBehind(1, 0));
        check.fails("27: road 1", INDEX, () -> x.detour(0, 1, 1));
    }

    private static void distance() {
        RoadOracle x = Build.prepared(4, 0, 1, 5, 1, 2, 5, 0, 2, 12);
        check.same("19: distance(0, 2)", x.distance(0, 2), 10);
        check.same("19: distance(2, 0)", x.distance(2, 0), -1);
        check.same("19: distance(0, 3)", x.distance(0, 3), -1);
        check.same("19: distance(3, 3)", x.distance(3, 3), 0);
        check.same("19: distance(0, 0)", x.distance(0, 0), 0);
        x.setTurn(0, 1, 2);
        check.same("19: with a penalty", x.distance(0, 2), 12);
        x.setTurn(0, 1, 3);
        check.same("19: with a larger one", x.distance(0, 2), 12);
        x.setTurn(0, 1, -1);
        x.setOpen(2, false);
        check.same("19: a forbidden turn", x.distance(0, 2), -1);
        check.same("19: and its first road", x.distance(0, 1), 5);
        // Where the turn is forbidden, the way leads round a loop to the same junction.
        RoadOracle y = Build.prepared(4, 0, 1, 1, 1, 2, 1, 1, 3, 1, 3, 1, 1);
        y.setTurn(0, 1, -1);
        check.same("19: around a forbidden turn", y.distance(0, 2), 104);
        y.setUTurn(-1);
        check.same("19: without turning back", y.distance(0, 2), -1);
    }

    /** 32 junctions in a row, forth and back: the longest way round, over one U-turn. */
    private static void theLongestPath() {
        RoadOracle x = Build.network(32);
        for (int i = 0; i < 31; i++) {
            x.addRoad(i, i + 1, 10000);
        }
        for (int i = 31; i > 0; i--) {
            x.addRoad(i, i - 1, 10000);
        }
        for (int i = 0; i + 1 < 62; i++) {
            x.setTurn(i, i + 1, 1000);
        }
        x.prepare();
        check.same("19: distance(0, 31)", x.distance(0, 31), 31 * 10000 + 30 * 1000);
        check.same("20: distanceBehind(0, 0)", x.distanceBehind(0, 0), 10100);
        for (int i = 0; i < 30; i++) {
            x.setTurn(i, 61 - i, -1);
        }
        check.same("20: all the way round", x.distanceBehind(0, 0), 61 * 11000);
        check.same("24: reach(0, MAX)", x.reach(0, MAX), 32);
        check.same("25: reached(31)", x.reached(31), 31);
        check.sameDouble("26: averageDistance(0)", x.averageDistance(0),
                (31 * 32 / 2 * 11000 - 31 * 1000) / 31.0);
        check.same("21: route(0, 31)", x.route(0, 31), 31);
        check.same("23: routeCost()", x.routeCost(), 340000);
        check.same("22: routeRoad(30)", x.routeRoad(30), 30);
    }

    private static void distanceBehind() {
        RoadOracle x = Build.prepared(3, 0, 1, 3, 1, 0, 4, 1, 2, 5);
        check.same("20: where the road ends", x.distanceBehind(0, 1), 0);
        check.same("20: straight on", x.distanceBehind(0, 2), 5);
        check.same("20: back", x.distanceBehind(0, 0), 104);
        check.same("20: no way", x.distanceBehind(2, 0), -1);
        check.same("20: with two turns back", x.distanceBehind(1, 2), 108);
        x.setTurn(0, 2, 9);
        check.same("20: with a penalty", x.distanceBehind(0, 2), 14);
        x.setTurn(0, 2, -1);
        check.same("20: a forbidden turn", x.distanceBehind(0, 2), -1);
        check.same("20: its first road", x.distanceBehind(0, 1), 0);
        x.setOpen(0, false);
        check.same("20: a closed road", x.distanceBehind(0, 1), -1);
        check.same("20: a closed road", x.distanceBehind(0, 0), -1);
        check.same("20: to its beginning", x.distanceBehind(1, 0), 0);
        check.same("20: over a closed road", x.distanceBehind(1, 2), -1);
    }

    private static void route() {
        RoadOracle x = Build.prepared(4, 0, 1, 5, 1, 2, 5, 0, 2, 12, 2, 3, 1);
        check.same("21: route(0, 3)", x.route(0, 3), 3);
        int[] due = {0, 1, 3};
        for (int i = 0; i < due.length; i++) {
            check.same("22: routeRoad(" + i + ")", x.routeRoad(i), due[i]);
        }
        check.same("23: routeCost()", x.routeCost(), 11);
        check.fails("22: routeRoad(3)", INDEX, () -> x.routeRoad(3));
        check.fails("22: routeRoad(-1)", INDEX, () -> x.routeRoad(-1));
        check.fails("22: routeRoad(MIN)", INDEX, () -> x.routeRoad(MIN));
        check.fails("22: routeRoad(MAX)", INDEX, () -> x.routeRoad(MAX));
        x.setTurn(0, 1, 4);
        check.same("21: with a penalty", x.route(0, 3), 2);
        check.same("22: routeRoad(0)", x.routeRoad(0), 2);
        check.same("22: routeRoad(1)", x.routeRoad(1), 3);
        check.same("23: routeCost()", x.routeCost(), 13);
        check.fails("22: routeRoad(2)", INDEX, () -> x.routeRoad(2));
        check.fails("21: no path", NONE, () -> x.route(3, 0));
    }

    private static void fewestRoadsFirst() {
        RoadOracle x = Build.prepared(4, 0, 1, 2, 1, 2, 2, 2, 3, 2, 0, 3, 6, 1, 3, 4);
        check.same("21: of three best ways the one with one road", x.route(0, 3), 1);
        check.same("22: routeRoad(0)", x.routeRoad(0), 3);
        check.same("23: routeCost()", x.routeCost(), 6);
        x.setWeight(3, 7);
        check.same("21: of two the one with two roads", x.route(0, 3), 2);
        check.same("22: routeRoad(1)", x.routeRoad(1), 4);
        x.setTurn(0, 4, 1);
        check.same("21: a penalty decides for three roads", x.route(0, 3), 3);
        // The number of roads changes below an arc whose cost stays what it was.
        RoadOracle y = Build.prepared(4, 0, 1, 1, 1, 2, 1, 2, 3, 1, 1, 3, 3, 3, 0, 1);
        check.same("21: route(0, 3)", y.route(0, 3), 3);
        check.same("4: setWeight(3, 2)", y.setWeight(3, 2) > 0, true);
        check.same("21: route(0, 3)", y.route(0, 3), 2);
        check.same("23: routeCost()", y.routeCost(), 3);
    }

    private static void smallestNumbersFirst() {
        RoadOracle x = Build.prepared(4, 0, 1, 1, 0, 2, 1, 2, 3, 1, 1, 3, 1);
        check.same("21: route(0, 3)", x.route(0, 3), 2);
        check.same("22: the first road decides", x.routeRoad(0), 0);
        check.same("22: routeRoad(1)", x.routeRoad(1), 3);
        RoadOracle y = Build.prepared(3, 0, 1, 2, 1, 2, 3, 0, 1, 2, 1, 2, 3, 1, 2, 3);
        check.same("21: of parallel roads", y.route(0, 2), 2);
        check.same("22: the smaller one", y.routeRoad(0), 0);
        check.same("22: the smaller one", y.routeRoad(1), 1);
        y.setTurn(0, 1, 1);
        y.route(0, 2);
        check.same("22: the first difference decides", y.routeRoad(0), 0);
        check.same("22: routeRoad(1)", y.routeRoad(1), 3);
        y.setTurn(0, 3, 1);
        y.setTurn(0, 4, 1);
        y.route(0, 2);
        check.same("22: routeRoad(0)", y.routeRoad(0), 2);
        check.same("22: routeRoad(1)", y.routeRoad(1), 1);
        y.setOpen(1, false);
        y.route(0, 2);
        check.same("22: routeRoad(1)", y.routeRoad(1), 3);
    }

    /** A path is kept through everything but another successful route. */
    private static void keptRoute() {
        RoadOracle x = Build.prepared(3, 0, 1, 5, 1, 2, 5);
        check.same("23: none is kept", x.routeCost(), 0);
        check.fails("22: none is kept", INDEX, () -> x.routeRoad(0));
        x.route(0, 2);
        x.setWeight(0, 100);
        x.distance(0, 1);
        x.reach(0, 5);
        x.detour(0, 2, 0);
        check.fails("21: no path", NONE, () -> x.route(2, 0));
        check.fails("21: no junction", INDEX, () -> x.route(0, 3));
        check.same("23: routeCost()", x.routeCost(), 10);
        check.same("22: routeRoad(1)", x.routeRoad(1), 1);
        x.push();
        x.pop();
        x.addRoad(0, 2, 1);
        check.fails("21: no hierarchy", STATE, () -> x.route(0, 2));
        check.same("23: routeCost()", x.routeCost(), 10);
        x.prepare();
        check.same("22: routeRoad(0)", x.routeRoad(0), 0);
        check.same("21: the empty path", x.route(1, 1), 0);
        check.same("23: routeCost()", x.routeCost(), 0);
        check.fails("22: routeRoad(0)", INDEX, () -> x.routeRoad(0));
        check.same("21: route(0, 2)", x.route(0, 2), 1);
        check.same("22: routeRoad(0)", x.routeRoad(0), 2);
    }

    private static void reach() {
        RoadOracle x = Build.prepared(6, 2, 5, 4, 2, 0, 4, 2, 3, 3, 3, 1, 1, 0, 4, 1);
        check.same("24: reach(2, 4)", x.reach(2, 4), 5);
        int[] due = {2, 3, 0, 1, 5};
        for (int i = 0; i < due.length; i++) {
            check.same("25: reached(" + i + ")", x.reached(i), due[i]);
        }
        check.fails("25: reached(5)", INDEX, () -> x.reached(5));
        check.fails("25: reached(-1)", INDEX, () -> x.reached(-1));
        check.fails("25: reached(MIN)", INDEX, () -> x.reached(MIN));
        check.same("24: reach(2, 5)", x.reach(2, 5), 6);
        check.same("25: reached(5)", x.reached(5), 4);
        check.same("24: reach(2, 3)", x.reach(2, 3), 2);
        check.same("24: reach(2, 2)", x.reach(2, 2), 1);
        check.same("24: reach(2, 0)", x.reach(2, 0), 1);
        check.same("25: the junction itself", x.reached(0), 2);
        check.same("24: reach(5, MAX)", x.reach(5, MAX), 1);
        check.same("24: reach(2, MAX)", x.reach(2, MAX), 6);
        check.fails("24: budget -1", ARGUMENT, () -> x.reach(2, -1));
        check.fails("24: budget MIN", ARGUMENT, () -> x.reach(2, MIN));
        check.fails("24: the index comes first", INDEX, () -> x.reach(6, -1));
        check.same("25: a failed call keeps them", x.reached(5), 4);
    }

    private static void keptReach() {
        RoadOracle x = Build.prepared(3, 0, 1, 2, 0, 2, 1);
        check.fails("25: none are kept", INDEX, () -> x.reached(0));
        x.reach(0, 2);
        x.setWeight(1, 50);
        x.route(0, 1);
        x.averageDistance(0);
        x.setPlace(0, 0, true);
        x.nearest(0, 0);
        x.addJunction();
        x.addRoad(1, 0, 1);
        check.fails("24: no hierarchy", STATE, () -> x.reach(1, 5));
        check.same("25: reached(0)", x.reached(0), 0);
        check.same("25: reached(1)", x.reached(1), 2);
        check.same("25: reached(2)", x.reached(2), 1);
        x.prepare();
        check.same("24: reach(2, 5)", x.reach(2, 5), 1);
        check.same("25: reached(0)", x.reached(0), 2);
        check.fails("25: reached(1)", INDEX, () -> x.reached(1));
    }

    private static void averageDistance() {
        RoadOracle x = Build.prepared(5, 0, 1, 1, 0, 2, 1, 0, 3, 2, 3, 0, 7);
        check.sameDouble("26: averageDistance(0)", x.averageDistance(0), 4.0 / 3.0);
        check.sameDouble("26: averageDistance(1)", x.averageDistance(1), 0.0);
        check.sameDouble("26: averageDistance(4)", x.averageDistance(4), 0.0);
        check.sameDouble("26: averageDistance(3)", x.averageDistance(3), 23.0 / 3.0);
        x.setWeight(0, 10000);
        check.sameDouble("26: averageDistance(0)", x.averageDistance(0), 10003.0 / 3.0);
        x.setOpen(0, false);
        check.sameDouble("26: averageDistance(0)", x.averageDistance(0), 1.5);
        x.setOpen(1, false);
        x.setOpen(2, false);
        check.sameDouble("26: averageDistance(0)", x.averageDistance(0), 0.0);
    }

    private static void detour() {
        RoadOracle x = Build.prepared(4, 0, 1, 5, 1, 2, 5, 0, 2, 12, 2, 3, 1);
        long digest = x.digest();
        check.same("27: on the best path", x.detour(0, 2, 0), 2);
        check.same("27: beside it", x.detour(0, 2, 2), 0);
        check.same("27: the only road", x.detour(0, 3, 3), -1);
        check.same("27: the empty path", x.detour(3, 3, 3), 0);
        check.fails("27: no path now", NONE, () -> x.detour(3, 0, 0));
        check.same("27: nothing has changed", x.digest(), digest);
        check.same("27: the road is open", x.isOpen(0), true);
        check.same("27: distance(0, 2)", x.distance(0, 2), 10);
        x.setOpen(2, false);
        check.same("27: without the other way", x.detour(0, 2, 1), -1);
        check.same("27: a closed road", x.detour(0, 2, 2), 0);
        check.same("27: it stays closed", x.isOpen(2), false);
        x.setOpen(1, false);
        check.fails("27: no path now", NONE, () -> x.detour(0, 2, 2));
        x.push();
        check.same("31: detour leaves no trace on a level", x.pop(), 0);
    }

    /** 32 junctions and 64 roads: a ring of two parallel roads from each junction to the next. */
    private static void atTheLimits() {
        RoadOracle x = Build.network(32);
        for (int i = 0; i < 64; i++) {
            x.addRoad(i % 32, (i + 1) % 32, i < 32 ? 3 : 2);
        }
        x.prepare();
        check.same("19: distance(0, 31)", x.distance(0, 31), 62);
        check.same("19: distance(1, 0)", x.distance(1, 0), 62);
        check.same("20: distanceBehind(63, 31)", x.distanceBehind(63, 31), 62);
        check.same("20: distanceBehind(0, 0)", x.distanceBehind(0, 0), 62);
        check.same("21: route(1, 0)", x.route(1, 0), 31);
        check.same("22: routeRoad(0)", x.routeRoad(0), 33);
        check.same("22: routeRoad(30)", x.routeRoad(30), 63);
        check.same("24: reach(31, 62)", x.reach(31, 62), 32);
        check.same("25: reached(0)", x.reached(0), 31);
        check.same("25: reached(1)", x.reached(1), 0);
        check.same("25: reached(31)", x.reached(31), 30);
        check.fails("25: reached(32)", INDEX, () -> x.reached(32));
        check.sameDouble("26: averageDistance(31)", x.averageDistance(31), 32.0);
        check.same("27: detour(31, 30, 63)", x.detour(31, 30, 63), 1);
        x.setPlace(30, 3, true);
        check.same("29: nearest(31, 3)", x.nearest(31, 3), 30);
        x.setWeight(63, 10000);
        check.same("21: route(31, 0)", x.route(31, 0), 1);
        check.same("22: routeRoad(0)", x.routeRoad(0), 31);
    }
}
