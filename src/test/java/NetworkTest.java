/** Promises 1 to 12: a new object, and the network. */
public final class NetworkTest {
    private static final int MIN = Integer.MIN_VALUE;
    private static final int MAX = Integer.MAX_VALUE;
    private static final Class<IndexOutOfBoundsException> INDEX = IndexOutOfBoundsException.class;
    private static final Class<IllegalArgumentException> ARGUMENT = IllegalArgumentException.class;
    private static final Class<IllegalStateException> STATE = IllegalStateException.class;
    private static final Check check = new Check();

    public static void main(String[] args) {
        aNewObject();
        addJunction();
        addRoad();
        addRoadDiscardsTheHierarchy();
        setWeight();
        setOpen();
        setTurn();
        setUTurn();
        counts();
        weight();
        isOpen();
        turnPenalty();
        check.finish("NetworkTest");
    }

    private static void aNewObject() {
        RoadOracle x = new RoadOracle();
        check.same("1: junctionCount()", x.junctionCount(), 0);
        check.same("1: roadCount()", x.roadCount(), 0);
        check.same("1: arcCount()", x.arcCount(), 0);
        check.same("1: isPrepared()", x.isPrepared(), false);
        check.same("1: routeCost()", x.routeCost(), 0);
        check.same("1: digest()", x.digest(), 23L * 31 * 31 * 31 * 31);
        check.fails("1: pop()", STATE, () -> x.pop());
        check.fails("1: routeRoad(0)", INDEX, () -> x.routeRoad(0));
        check.fails("1: reached(0)", INDEX, () -> x.reached(0));
        check.same("1: setUTurn(5)", x.setUTurn(5), 0);
        x.addJunction();
        for (int kind = 0; kind < 4; kind++) {
            check.same("1: no place", x.setPlace(0, kind, false), false);
        }
        RoadOracle other = new RoadOracle();
        check.same("1: objects share nothing", other.junctionCount(), 0);
    }

    private static void addJunction() {
        RoadOracle x = new RoadOracle();
        for (int i = 0; i < 32; i++) {
            check.same("2: addJunction()", x.addJunction(), i);
        }
        check.fails("2: the 33rd junction", STATE, () -> x.addJunction());
        check.fails("2: the 33rd junction again", STATE, () -> x.addJunction());
        check.same("2: junctionCount()", x.junctionCount(), 32);
        check.same("2: addRoad(31, 0, 1)", x.addRoad(31, 0, 1), 0);
        x.prepare();
        check.same("2: distance(31, 0)", x.distance(31, 0), 1);
        RoadOracle y = Build.prepared(2, 0, 1, 3);
        y.addJunction();
        check.same("2: the hierarchy stays", y.isPrepared(), true);
        check.same("2: distance to a new junction", y.distance(0, 2), -1);
    }

    private static void addRoad() {
        RoadOracle x = Build.network(3);
        check.same("3: addRoad(0, 1, 1)", x.addRoad(0, 1, 1), 0);
        check.same("3: addRoad(0, 1, 10000), a second one", x.addRoad(0, 1, 10000), 1);
        check.same("3: addRoad(2, 0, 7)", x.addRoad(2, 0, 7), 2);
        check.same("3: a new road is open", x.isOpen(2), true);
        check.fails("3: from -1", INDEX, () -> x.addRoad(-1, 0, 1));
        check.fails("3: from 3", INDEX, () -> x.addRoad(3, 0, 1));
        check.fails("3: to -1", INDEX, () -> x.addRoad(0, -1, 1));
        check.fails("3: to 3", INDEX, () -> x.addRoad(0, 3, 1));
        check.fails("3: from MIN to MAX", INDEX, () -> x.addRoad(MIN, MAX, 1));
        check.fails("3: the index comes first", INDEX, () -> x.addRoad(3, 3, 0));
        check.fails("3: the index comes first", INDEX, () -> x.addRoad(0, 3, 10001));
        check.fails("3: a loop", ARGUMENT, () -> x.addRoad(1, 1, 1));
        check.fails("3: weight 0", ARGUMENT, () -> x.addRoad(0, 1, 0));
        check.fails("3: weight 10001", ARGUMENT, () -> x.addRoad(0, 1, 10001));
        check.fails("3: weight MIN", ARGUMENT, () -> x.addRoad(0, 1, MIN));
        check.same("3: roadCount()", x.roadCount(), 3);

        RoadOracle full = Build.full();
        full.prepare();
        long digest = full.digest();
        check.fails("3: the 65th road", STATE, () -> full.addRoad(0, 1, 1));
        check.fails("3: the index comes first", INDEX, () -> full.addRoad(2, 1, 1));
        check.fails("3: the argument comes before the state", ARGUMENT, () -> full.addRoad(0, 0, 1));
        check.fails("3: the argument comes before the state", ARGUMENT, () -> full.addRoad(0, 1, 0));
        check.same("3: a failed call keeps the hierarchy", full.isPrepared(), true);
        check.same("3: roadCount()", full.roadCount(), 64);
        check.same("3: digest()", full.digest(), digest);
        check.same("3: weight(63)", full.weight(63), 64);
    }

    private static void addRoadDiscardsTheHierarchy() {
        RoadOracle x = Build.prepared(3, 0, 1, 4, 1, 2, 4);
        x.route(0, 2);
        x.reach(0, 100);
        check.same("3: addRoad(0, 2, 5)", x.addRoad(0, 2, 5), 2);
        check.same("3: isPrepared()", x.isPrepared(), false);
        check.same("3: arcCount()", x.arcCount(), 0);
        check.fails("3: distance(0, 2)", STATE, () -> x.distance(0, 2));
        check.same("3: routeCost() is kept", x.routeCost(), 8);
        check.same("3: routeRoad(1) is kept", x.routeRoad(1), 1);
        check.same("3: reached(2) is kept", x.reached(2), 2);
        x.prepare();
        check.same("3: distance(0, 2)", x.distance(0, 2), 5);
    }

    private static void setWeight() {
        RoadOracle x = Build.prepared(3, 0, 1, 5, 1, 2, 7, 2, 0, 9);
        check.same("4: setWeight(0, 6)", x.setWeight(0, 6), 2);
        check.same("4: setWeight(0, 6) again", x.setWeight(0, 6), 0);
        check.same("4: arcCost(2, 0)", x.arcCost(2, 0), 6);
        check.same("4: arcCost(2, 1)", x.arcCost(2, 1), 13);
        check.same("4: setWeight(2, 10000)", x.setWeight(2, 10000), 1);
        check.same("4: weight(2)", x.weight(2), 10000);
        check.same("4: distance(1, 0)", x.distance(1, 0), 10007);
        check.same("4: setWeight(2, 1)", x.setWeight(2, 1), 1);
        check.same("4: distance(1, 0)", x.distance(1, 0), 8);
        check.fails("4: road -1", INDEX, () -> x.setWeight(-1, 1));
        check.fails("4: road 3", INDEX, () -> x.setWeight(3, 1));
        check.fails("4: the index comes first", INDEX, () -> x.setWeight(3, 0));
        check.fails("4: weight 0", ARGUMENT, () -> x.setWeight(0, 0));
        check.fails("4: weight 10001", ARGUMENT, () -> x.setWeight(0, 10001));
        check.fails("4: weight MIN", ARGUMENT, () -> x.setWeight(0, MIN));
        check.same("4: weight(0)", x.weight(0), 6);
        RoadOracle y = Build.network(2, 0, 1, 5, 1, 0, 5);
        check.same("4: without a hierarchy", y.setWeight(1, 3), 0);
        y.prepare();
        check.same("4: the weight holds", y.distance(1, 0), 3);
        y.setOpen(0, false);
        check.same("4: a closed road's weight", y.setWeight(0, 4), 0);
        check.same("4: opened again", y.setOpen(0, true), 2);
        check.same("4: arcCost(1, 0)", y.arcCost(1, 0), 104);
    }

    private static void setOpen() {
        RoadOracle x = Build.prepared(3, 0, 1, 5, 1, 2, 7, 2, 0, 9);
        check.same("5: setOpen(0, true)", x.setOpen(0, true), 0);
        check.same("5: setOpen(0, false)", x.setOpen(0, false), 3);
        check.same("5: setOpen(0, false) again", x.setOpen(0, false), 0);
        check.same("5: arcCost(2, 0)", x.arcCost(2, 0), -1);
        check.same("5: arcCost(2, 1)", x.arcCost(2, 1), -1);
        check.same("5: distance(0, 1)", x.distance(0, 1), -1);
        check.same("5: distance(1, 0)", x.distance(1, 0), 16);
        check.same("5: setOpen(1, false)", x.setOpen(1, false), 1);
        check.same("5: setOpen(0, true)", x.setOpen(0, true), 1);
        check.same("5: setOpen(1, true)", x.setOpen(1, true), 3);
        check.same("5: distance(0, 2)", x.distance(0, 2), 12);
        check.fails("5: road -1", INDEX, () -> x.setOpen(-1, true));
        check.fails("5: road 3", INDEX, () -> x.setOpen(3, false));
        check.fails("5: road MAX", INDEX, () -> x.setOpen(MAX, false));
        RoadOracle y = Build.network(2, 0, 1, 5);
        check.same("5: without a hierarchy", y.setOpen(0, false), 0);
        y.prepare();
        check.same("5: it stays closed", y.distance(0, 1), -1);
        RoadOracle full = Build.full();
        full.setOpen(63, false);
        check.same("5: isOpen(63)", full.isOpen(63), false);
        check.same("5: isOpen(62)", full.isOpen(62), true);
        check.same("5: isOpen(31)", full.isOpen(31), true);
    }

    private static void setTurn() {
        RoadOracle x = Build.prepared(3, 0, 1, 5, 1, 2, 7, 2, 0, 9, 1, 0, 1);
        check.same("6: setTurn(0, 1, 0) costs what DEFAULT does", x.setTurn(0, 1, 0), 0);
        check.same("6: setTurn(0, 1, 1000)", x.setTurn(0, 1, 1000) > 0, true);
        check.same("6: arcCost(0, 1)", x.arcCost(0, 1), 1007);
        check.same("6: distance(0, 2)", x.distance(0, 2), 1012);
        check.same("6: setTurn(0, 1, -1)", x.setTurn(0, 1, -1) > 0, true);
        check.same("6: arcCost(0, 1)", x.arcCost(0, 1), -1);
        check.same("6: distance(0, 2)", x.distance(0, 2), -1);
        check.same("6: setTurn(0, 1, -1) again", x.setTurn(0, 1, -1), 0);
        check.same("6: setTurn(0, 1, -2)", x.setTurn(0, 1, -2) > 0, true);
        check.same("6: arcCost(0, 1)", x.arcCost(0, 1), 7);
        check.same("6: a turn back has the U-turn penalty", x.arcCost(0, 3), 101);
        x.setTurn(0, 3, 4);
        check.same("6: unless it has its own", x.arcCost(0, 3), 5);
        check.fails("6: road -1", INDEX, () -> x.setTurn(-1, 0, 0));
        check.fails("6: road 4", INDEX, () -> x.setTurn(0, 4, 0));
        check.fails("6: the index comes first", INDEX, () -> x.setTurn(0, 4, -3));
        check.fails("6: 2 does not follow 0", ARGUMENT, () -> x.setTurn(0, 2, 0));
        check.fails("6: a road does not follow itself", ARGUMENT, () -> x.setTurn(1, 1, 0));
        check.fails("6: setting -3", ARGUMENT, () -> x.setTurn(0, 1, -3));
        check.fails("6: setting 1001", ARGUMENT, () -> x.setTurn(0, 1, 1001));
        check.fails("6: setting MAX", ARGUMENT, () -> x.setTurn(0, 1, MAX));
        check.same("6: turnPenalty(0, 1)", x.turnPenalty(0, 1), 0);
        RoadOracle y = Build.network(3, 0, 1, 5, 1, 2, 7);
        check.same("6: without a hierarchy", y.setTurn(0, 1, 3), 0);
        y.prepare();
        check.same("6: the setting holds", y.distance(0, 2), 15);
        RoadOracle z = Build.prepared(3, 0, 1, 5, 1, 2, 7, 2, 0, 9);
        check.same("6: it changes a shortcut too", z.setTurn(2, 0, 10), 2);
        check.same("6: arcCost(2, 1)", z.arcCost(2, 1), 22);
    }

    private static void setUTurn() {
        RoadOracle x = Build.prepared(3, 0, 1, 3, 1, 0, 3, 1, 2, 1);
        check.same("7: it is 100 at first", x.setUTurn(100), 0);
        check.same("7: setUTurn(0)", x.setUTurn(0), 2);
        check.same("7: turnPenalty(0, 1)", x.turnPenalty(0, 1), 0);
        check.same("7: distanceBehind(0, 0)", x.distanceBehind(0, 0), 3);
        check.same("7: setUTurn(1000)", x.setUTurn(1000), 2);
        check.same("7: distanceBehind(0, 0)", x.distanceBehind(0, 0), 1003);
        check.same("7: other turns have none", x.turnPenalty(0, 2), 0);
        x.setTurn(0, 1, 7);
        check.same("7: setUTurn(-1) changes what is DEFAULT", x.setUTurn(-1), 1);
        check.same("7: turnPenalty(0, 1)", x.turnPenalty(0, 1), 7);
        check.same("7: turnPenalty(1, 0)", x.turnPenalty(1, 0), -1);
        check.fails("7: setUTurn(-2)", ARGUMENT, () -> x.setUTurn(-2));
        check.fails("7: setUTurn(1001)", ARGUMENT, () -> x.setUTurn(1001));
        check.fails("7: setUTurn(MIN)", ARGUMENT, () -> x.setUTurn(MIN));
        check.same("7: nothing has changed", x.turnPenalty(1, 0), -1);
        RoadOracle y = Build.network(2, 0, 1, 3, 1, 0, 3);
        check.same("7: without a hierarchy", y.setUTurn(5), 0);
        y.prepare();
        check.same("7: the penalty holds", y.arcCost(0, 1), 8);
    }

    private static void counts() {
        RoadOracle x = new RoadOracle();
        for (int i = 0; i < 32; i++) {
            check.same("8: junctionCount()", x.junctionCount(), i);
            x.addJunction();
        }
        check.same("8: junctionCount()", x.junctionCount(), 32);
        for (int i = 0; i < 64; i++) {
            check.same("9: roadCount()", x.roadCount(), i);
            x.addRoad(i % 32, (i + 1) % 32, 1);
        }
        check.same("9: roadCount()", x.roadCount(), 64);
        x.push();
        x.pop();
        check.same("8: junctionCount()", x.junctionCount(), 32);
        check.same("9: roadCount()", x.roadCount(), 64);
    }

    private static void weight() {
        RoadOracle x = Build.full();
        check.same("10: weight(0)", x.weight(0), 1);
        check.same("10: weight(63)", x.weight(63), 64);
        check.fails("10: weight(64)", INDEX, () -> x.weight(64));
        check.fails("10: weight(-1)", INDEX, () -> x.weight(-1));
        RoadOracle y = Build.network(2, 0, 1, 10000);
        check.same("10: weight(0)", y.weight(0), 10000);
        check.fails("10: weight(1)", INDEX, () -> y.weight(1));
        y.setOpen(0, false);
        check.same("10: a closed road keeps it", y.weight(0), 10000);
    }

    private static void isOpen() {
        RoadOracle x = Build.full();
        check.same("11: isOpen(0)", x.isOpen(0), true);
        check.same("11: isOpen(63)", x.isOpen(63), true);
        x.setOpen(0, false);
        check.same("11: isOpen(0)", x.isOpen(0), false);
        check.same("11: isOpen(32)", x.isOpen(32), true);
        x.setOpen(0, true);
        check.same("11: isOpen(0)", x.isOpen(0), true);
        check.fails("11: isOpen(64)", INDEX, () -> x.isOpen(64));
        check.fails("11: isOpen(-1)", INDEX, () -> x.isOpen(-1));
    }

    private static void turnPenalty() {
        RoadOracle x = Build.network(3, 0, 1, 3, 1, 0, 3, 1, 2, 3, 1, 0, 3);
        check.same("12: turnPenalty(0, 1)", x.turnPenalty(0, 1), 100);
        check.same("12: turnPenalty(0, 3), by another road", x.turnPenalty(0, 3), 100);
        check.same("12: turnPenalty(0, 2)", x.turnPenalty(0, 2), 0);
        x.setTurn(0, 2, 1000);
        check.same("12: turnPenalty(0, 2)", x.turnPenalty(0, 2), 1000);
        x.setTurn(0, 2, RoadOracle.FORBIDDEN);
        check.same("12: turnPenalty(0, 2)", x.turnPenalty(0, 2), -1);
        x.setTurn(0, 1, 0);
        check.same("12: turnPenalty(0, 1)", x.turnPenalty(0, 1), 0);
        x.setUTurn(RoadOracle.FORBIDDEN);
        check.same("12: turnPenalty(0, 1)", x.turnPenalty(0, 1), 0);
        check.same("12: turnPenalty(0, 3)", x.turnPenalty(0, 3), -1);
        x.setTurn(0, 1, RoadOracle.DEFAULT);
        check.same("12: turnPenalty(0, 1)", x.turnPenalty(0, 1), -1);
        x.setOpen(2, false);
        x.setTurn(0, 2, 6);
        check.same("12: a closed road's turns stay", x.turnPenalty(0, 2), 6);
        check.fails("12: road 4", INDEX, () -> x.turnPenalty(0, 4));
        check.fails("12: road -1", INDEX, () -> x.turnPenalty(-1, 0));
        check.fails("12: 0 does not follow 2", ARGUMENT, () -> x.turnPenalty(2, 0));
        check.fails("12: 0 does not follow 0", ARGUMENT, () -> x.turnPenalty(0, 0));
        check.fails("12: without roads", INDEX, () -> new RoadOracle().turnPenalty(0, 0));
    }
}
