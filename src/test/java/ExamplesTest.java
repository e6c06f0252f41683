/** The four examples of the document, call by call. */
public final class ExamplesTest {
    private static final Check check = new Check();

    public static void main(String[] args) {
        aPenaltyMakesAnotherRoadBetter();
        turningBack();
        aLevelOpensARoadAgain();
        withinReach();
        check.finish("ExamplesTest");
    }

    private static RoadOracle withJunctions(int count) {
        RoadOracle x = new RoadOracle();
        for (int i = 0; i < count; i++) {
            check.same("addJunction()", x.addJunction(), i);
        }
        return x;
    }

    private static void aPenaltyMakesAnotherRoadBetter() {
        RoadOracle x = withJunctions(3);
        check.same("addRoad(0, 1, 5)", x.addRoad(0, 1, 5), 0);
        check.same("addRoad(1, 2, 5)", x.addRoad(1, 2, 5), 1);
        check.same("addRoad(0, 2, 12)", x.addRoad(0, 2, 12), 2);
        check.same("prepare()", x.prepare(), 0);
        check.same("distance(0, 2)", x.distance(0, 2), 10);
        check.same("route(0, 2)", x.route(0, 2), 2);
        check.same("routeRoad(0)", x.routeRoad(0), 0);
        check.same("routeRoad(1)", x.routeRoad(1), 1);
        check.same("setTurn(0, 1, 4)", x.setTurn(0, 1, 4), 1);
        check.same("distance(0, 2)", x.distance(0, 2), 12);
        check.same("route(0, 2)", x.route(0, 2), 1);
        check.same("routeRoad(0)", x.routeRoad(0), 2);
    }

    private static void turningBack() {
        RoadOracle x = withJunctions(2);
        check.same("addRoad(0, 1, 3)", x.addRoad(0, 1, 3), 0);
        check.same("addRoad(1, 0, 3)", x.addRoad(1, 0, 3), 1);
        check.same("prepare()", x.prepare(), 0);
        check.same("turnPenalty(0, 1)", x.turnPenalty(0, 1), 100);
        check.same("distanceBehind(0, 0)", x.distanceBehind(0, 0), 103);
        check.same("setUTurn(-1)", x.setUTurn(-1), 2);
        check.same("distanceBehind(0, 0)", x.distanceBehind(0, 0), -1);
        check.same("distance(0, 1)", x.distance(0, 1), 3);
    }

    private static void aLevelOpensARoadAgain() {
        RoadOracle x = withJunctions(3);
        check.same("addRoad(0, 1, 1)", x.addRoad(0, 1, 1), 0);
        check.same("addRoad(1, 2, 1)", x.addRoad(1, 2, 1), 1);
        check.same("prepare()", x.prepare(), 0);
        check.same("arcCost(0, 1)", x.arcCost(0, 1), 1);
        check.same("setWeight(1, 8)", x.setWeight(1, 8), 1);
        check.same("arcCost(0, 1)", x.arcCost(0, 1), 8);
        check.same("push()", x.push(), 1);
        check.same("setOpen(1, false)", x.setOpen(1, false), 1);
        check.same("distance(0, 2)", x.distance(0, 2), -1);
        check.same("pop()", x.pop(), 1);
        check.same("distance(0, 2)", x.distance(0, 2), 9);
    }

    private static void withinReach() {
        RoadOracle x = withJunctions(3);
        check.same("addRoad(0, 1, 2)", x.addRoad(0, 1, 2), 0);
        check.same("addRoad(0, 2, 2)", x.addRoad(0, 2, 2), 1);
        check.same("prepare()", x.prepare(), 0);
        check.same("reach(0, 2)", x.reach(0, 2), 3);
        check.same("reached(0)", x.reached(0), 0);
        check.same("reached(2)", x.reached(2), 2);
        check.same("setPlace(2, 0, true)", x.setPlace(2, 0, true), false);
        check.same("setPlace(1, 0, true)", x.setPlace(1, 0, true), false);
        check.same("nearest(0, 0)", x.nearest(0, 0), 1);
        check.sameDouble("averageDistance(0)", x.averageDistance(0), 2.0);
        check.sameDouble("averageDistance(1)", x.averageDistance(1), 0.0);
    }
}
