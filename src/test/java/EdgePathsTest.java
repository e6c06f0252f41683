import java.math.BigDecimal;
import java.math.MathContext;

/**
 * Promises 19 to 27 and what the Description says of paths, sentence by sentence: the empty path and
 * the longest one, no path, ties, what is kept and what is not, and the first numbers that are
 * refused.
 */
public final class EdgePathsTest extends Edge {
    public static void main(String[] args) {
        distance();
        distanceBehind();
        bestPaths();
        keptPaths();
        reach();
        averageDistance();
        detour();
        check.finish("EdgePathsTest");
    }

    // ---- Promise 19

    private static void distance() {
        theEmptyPath();
        noPath();
        aPathOfOneRoad();
        theLargestDistance();
        distanceBetweenJunctionsThatAreThere();
    }

    /** Description: "if s = t, there is also the empty path, with the cost 0", at each junction. */
    private static void theEmptyPath() {
        RoadOracle x = Build.prepared(32, 0, 1, 5, 1, 0, 5);
        x.setUTurn(0);
        for (int i = 0; i < 32; i++) {
            check.same("19: distance(" + i + ", " + i + ")", x.distance(i, i), 0);
            check.same("21: route(" + i + ", " + i + ")", x.route(i, i), 0);
            check.same("23: routeCost()", x.routeCost(), 0);
            check.fails("22: routeRoad(0)", INDEX, () -> x.routeRoad(0));
        }
        x.setOpen(0, false);
        x.setOpen(1, false);
        check.same("19: between closed roads", x.distance(0, 0), 0);
    }

    /** Promise 19: "-1 if there is no path", for each of the reasons that the Description knows. */
    private static void noPath() {
        RoadOracle x = Build.prepared(4, 0, 1, 5, 1, 2, 5);
        check.same("19: against the direction", x.distance(1, 0), -1);
        check.same("19: to a junction without roads", x.distance(0, 3), -1);
        check.same("19: from a junction without roads", x.distance(3, 0), -1);
        x.setTurn(0, 1, FORBIDDEN);
        check.same("19: by a turn that is not possible", x.distance(0, 2), -1);
        x.setTurn(0, 1, DEFAULT);
        x.setOpen(1, false);
        check.same("19: over a closed last road", x.distance(0, 2), -1);
        x.setOpen(1, true);
        x.setOpen(0, false);
        check.same("19: over a closed first road", x.distance(0, 2), -1);
        check.same("19: behind it", x.distance(1, 2), 5);
        check.fails("21: route(0, 2)", NONE, () -> x.route(0, 2));
        check.fails("27: detour(0, 2, 0)", NONE, () -> x.detour(0, 2, 0));
        check.same("20: distanceBehind(0, 2)", x.distanceBehind(0, 2), -1);
    }

    /** Description: "a sequence of one or more open roads", and its cost from the least weight to the greatest. */
    private static void aPathOfOneRoad() {
        RoadOracle x = Build.prepared(2, 0, 1, 1);
        check.same("19: the least", x.distance(0, 1), 1);
        x.setWeight(0, 10000);
        check.same("19: the greatest", x.distance(0, 1), 10000);
        check.same("21: route(0, 1)", x.route(0, 1), 1);
        check.same("20: without its weight", x.distanceBehind(0, 1), 0);
        x.setOpen(0, false);
        check.same("19: closed", x.distance(0, 1), -1);
    }

    /**
     * Description: "Its cost is the sum of the weights of its roads and of the penalties of its turns":
     * 64 weights of 10000 and 63 penalties of 1000, in all questions of promises 19 to 29.
     */
    private static void theLargestDistance() {
        RoadOracle x = Build.longest();
        int largest = 64 * 10000 + 63 * 1000;
        check.same("19: distance(3, 2)", x.distance(3, 2), largest);
        check.same("19: distance(3, 1)", x.distance(3, 1), 21000);
        check.same("20: distanceBehind(0, 2)", x.distanceBehind(0, 2), largest - 10000);
        check.same("21: route(3, 2)", x.route(3, 2), 64);
        check.same("23: routeCost()", x.routeCost(), largest);
        for (int i = 0; i < 64; i++) {
            check.same("22: routeRoad(" + i + ")", x.routeRoad(i), i);
        }
        check.fails("22: routeRoad(64)", INDEX, () -> x.routeRoad(64));
        check.same("24: one less", x.reach(3, largest - 1), 3);
        check.same("24: all of it", x.reach(3, largest), 4);
        check.same("25: reached(3)", x.reached(3), 2);
        check.sameDouble("26: averageDistance(3)", x.averageDistance(3), (10000 + 21000 + largest) / 3.0);
        check.same("27: over the last road", x.detour(3, 2, 63), -1);
        x.setPlace(2, 0, true);
        check.same("29: nearest(3, 0)", x.nearest(3, 0), 2);
        x.setWeight(63, 9999);
        check.same("19: distance(3, 2)", x.distance(3, 2), largest - 1);
        x.setTurn(62, 63, FORBIDDEN);
        check.same("19: distance(3, 2)", x.distance(3, 2), -1);
    }

    /**
     * Promise 19: "Throws IllegalStateException if there is no hierarchy", first, and "Throws
     * IndexOutOfBoundsException if there is no such junction", for 2 to 32 junctions.
     */
    private static void distanceBetweenJunctionsThatAreThere() {
        RoadOracle none = Build.network(2, 0, 1, 5);
        RoadOracle x = Build.prepared(2, 0, 1, 5);
        for (int i = 1; i < 32; i++) {
            int last = i;
            check.takes("19: the last junction", () -> x.distance(last, last));
            check.fails("19: to the one behind it", INDEX, () -> x.distance(0, last + 1));
            check.fails("19: from the one behind it", INDEX, () -> x.distance(last + 1, 0));
            check.fails("19: the same one", INDEX, () -> x.distance(last + 1, last + 1));
            if (i < 31) {
                x.addJunction();
            }
        }
        for (int number : NO_JUNCTIONS) {
            check.fails("19: from " + number, INDEX, () -> x.distance(number, 0));
            check.fails("19: to " + number, INDEX, () -> x.distance(0, number));
            check.fails("19: without a hierarchy", STATE, () -> none.distance(number, number));
        }
    }

    // ---- Promise 20

    private static void distanceBehind() {
        behindARoad();
        behindAClosedRoad();
        behindRoadsThatAreThere();
    }

    /**
     * Promise 20: "a path that begins with this road and ends with a road that ends at the junction,
     * without the weight of this road": 0 where the road itself ends, -1 where no path leads.
     */
    private static void behindARoad() {
        RoadOracle x = Build.prepared(4, 0, 1, 10000, 1, 0, 1, 1, 2, 1);
        check.same("20: where it ends", x.distanceBehind(0, 1), 0);
        check.same("20: back where it begins", x.distanceBehind(0, 0), 101);
        check.same("20: the empty path does not count", x.distanceBehind(2, 1), -1);
        check.same("20: no path", x.distanceBehind(2, 0), -1);
        check.same("20: a junction without roads", x.distanceBehind(0, 3), -1);
        x.setUTurn(FORBIDDEN);
        check.same("20: where it ends", x.distanceBehind(0, 1), 0);
        check.same("20: not back", x.distanceBehind(0, 0), -1);
        x.setTurn(0, 1, 0);
        check.same("20: a turn of its own", x.distanceBehind(0, 0), 1);
    }

    /** Promise 20: "-1 if there is none": a path has open roads, so a closed road begins none. */
    private static void behindAClosedRoad() {
        RoadOracle x = Build.prepared(3, 0, 1, 5, 1, 2, 5);
        x.setOpen(0, false);
        check.same("20: on", x.distanceBehind(0, 2), -1);
        check.same("20: not even to where it ends", x.distanceBehind(0, 1), -1);
        check.same("20: the next one", x.distanceBehind(1, 2), 0);
        x.setOpen(0, true);
        check.same("20: open again", x.distanceBehind(0, 2), 5);
    }

    /**
     * Promise 20: "Throws IllegalStateException if there is no hierarchy", first, and "Throws
     * IndexOutOfBoundsException if there is no such road or junction", of 64 and 32.
     */
    private static void behindRoadsThatAreThere() {
        RoadOracle x = State.FULL.make();
        RoadOracle none = State.FULL_UNPREPARED.make();
        check.same("20: the last of both", x.distanceBehind(63, 31), 0);
        check.same("20: the first of both", x.distanceBehind(31, 0), 0);
        for (int number : NO_ROADS) {
            check.fails("20: road " + number, INDEX, () -> x.distanceBehind(number, 0));
            check.fails("20: road " + number + " first", STATE, () -> none.distanceBehind(number, 0));
        }
        for (int number : NO_JUNCTIONS) {
            check.fails("20: to " + number, INDEX, () -> x.distanceBehind(0, number));
            check.fails("20: to " + number + " first", STATE, () -> none.distanceBehind(0, number));
        }
    }

    // ---- Promise 21

    private static void bestPaths() {
        theLeastCostFirst();
        thenTheFewestRoads();
        thenTheSmallerNumberAtTheFirstDifference();
        noRouteWithoutAPath();
    }

    /** Description: "The best path from s to t is the one with the least cost", by 1, over more roads. */
    private static void theLeastCostFirst() {
        RoadOracle x = Build.prepared(4, 0, 3, 10, 0, 1, 3, 1, 2, 3, 2, 3, 3);
        check.same("21: three roads for 9 or one for 10", x.route(0, 3), 3);
        check.same("23: routeCost()", x.routeCost(), 9);
        x.setTurn(1, 2, 2);
        check.same("21: three roads for 11 or one for 10", x.route(0, 3), 1);
        check.same("23: routeCost()", x.routeCost(), 10);
    }

    /** Description: "of several, one with the fewest roads", though it has the greater numbers. */
    private static void thenTheFewestRoads() {
        RoadOracle x = Build.prepared(4, 0, 1, 3, 1, 2, 3, 2, 3, 3, 0, 2, 6, 0, 3, 9);
        check.same("21: three, two or one road for 9", x.route(0, 3), 1);
        check.same("22: routeRoad(0)", x.routeRoad(0), 4);
        x.setOpen(4, false);
        check.same("21: three or two roads for 9", x.route(0, 3), 2);
        check.same("22: routeRoad(0)", x.routeRoad(0), 3);
        x.setOpen(3, false);
        check.same("21: three roads for 9", x.route(0, 3), 3);
    }

    /**
     * Description: "of several, the one whose sequence of road numbers comes first: at the first place
     * where two sequences differ, the smaller number decides", whatever comes behind it.
     */
    private static void thenTheSmallerNumberAtTheFirstDifference() {
        // The sequences 0, 5 and 1, 2; the second one has the smaller sum and the smaller end.
        RoadOracle x = Build.prepared(6, 0, 1, 4, 0, 2, 4, 2, 3, 4, 4, 5, 4, 5, 4, 4, 1, 3, 4);
        check.same("21: route(0, 3)", x.route(0, 3), 2);
        check.same("22: routeRoad(0)", x.routeRoad(0), 0);
        check.same("22: routeRoad(1)", x.routeRoad(1), 5);
        // 64 roads in three bundles between 0, 1, 2 and 3: the smallest number of each, then the next.
        RoadOracle y = Build.network(4);
        for (int i = 0; i < 64; i++) {
            y.addRoad((65 - i) % 3, (65 - i) % 3 + 1, 7);
        }
        y.prepare();
        int[][] due = {{2, 1, 0}, {5, 1, 0}, {5, 4, 0}, {5, 4, 3}};
        for (int i = 0; i < due.length; i++) {
            check.same("21: route(0, 3)", y.route(0, 3), 3);
            for (int k = 0; k < 3; k++) {
                check.same("22: routeRoad(" + k + ")", y.routeRoad(k), due[i][k]);
            }
            y.setOpen(Math.max(2 - i, 0), false);
        }
    }

    /**
     * Promise 21: "Throws java.util.NoSuchElementException if there is no path", behind the state and
     * the index; there is always one from a junction to itself.
     */
    private static void noRouteWithoutAPath() {
        RoadOracle x = Build.network(2, 0, 1, 5);
        check.fails("21: no hierarchy", STATE, () -> x.route(1, 0));
        check.fails("21: no hierarchy", STATE, () -> x.route(1, 2));
        check.fails("21: no hierarchy", STATE, () -> x.route(1, 1));
        x.prepare();
        check.fails("21: no path", NONE, () -> x.route(1, 0));
        for (int number : NO_JUNCTIONS) {
            check.fails("21: from " + number, INDEX, () -> x.route(number, 0));
            check.fails("21: to " + number, INDEX, () -> x.route(1, number));
            check.fails("21: both " + number, INDEX, () -> x.route(number, number));
        }
        check.fails("21: the junction behind the last", INDEX, () -> x.route(2, 2));
        check.same("21: the empty path", x.route(1, 1), 0);
    }

    // ---- Promises 21 to 23: what is kept

    private static void keptPaths() {
        indexesOfTheKeptPath();
        aRefusedRouteKeepsThePath();
        aSuccessfulRouteReplacesThePath();
        theCostStaysWhatItWas();
    }

    /** Promise 22: "Throws IndexOutOfBoundsException if there is no such index", for paths of 0 to 31 roads. */
    private static void indexesOfTheKeptPath() {
        RoadOracle x = Build.network(32);
        for (int i = 0; i < 31; i++) {
            x.addRoad(i, i + 1, 3);
        }
        x.prepare();
        for (int i = 0; i < 32; i++) {
            int length = i;
            check.same("21: route(0, " + i + ")", x.route(0, i), i);
            check.same("23: routeCost()", x.routeCost(), 3 * i);
            if (i > 0) {
                check.same("22: the first", x.routeRoad(0), 0);
                check.same("22: the last", x.routeRoad(i - 1), i - 1);
            }
            check.fails("22: the one behind it", INDEX, () -> x.routeRoad(length));
            check.fails("22: the one before the first", INDEX, () -> x.routeRoad(-1));
        }
        for (int index : NO_JUNCTIONS) {
            check.fails("22: routeRoad(" + index + ")", INDEX, () -> x.routeRoad(index));
        }
    }

    /** Promise 21: the path "is kept until the next successful call", so a refused one keeps it. */
    private static void aRefusedRouteKeepsThePath() {
        RoadOracle x = Build.prepared(3, 0, 1, 5, 1, 2, 6);
        x.route(0, 2);
        check.fails("21: no path", NONE, () -> x.route(2, 0));
        check.fails("21: no junction", INDEX, () -> x.route(0, 3));
        theKeptPath(x);
        x.addRoad(2, 0, 1);
        check.fails("21: no hierarchy", STATE, () -> x.route(0, 1));
        theKeptPath(x);
        x.prepare();
        theKeptPath(x);
    }

    private static void theKeptPath(RoadOracle x) {
        check.same("23: routeCost()", x.routeCost(), 11);
        check.same("22: routeRoad(0)", x.routeRoad(0), 0);
        check.same("22: routeRoad(1)", x.routeRoad(1), 1);
        check.fails("22: routeRoad(2)", INDEX, () -> x.routeRoad(2));
    }

    /** Promise 21: "until the next successful call": a shorter path and the empty one replace it whole. */
    private static void aSuccessfulRouteReplacesThePath() {
        RoadOracle x = Build.prepared(3, 0, 1, 5, 1, 2, 6);
        x.route(0, 2);
        x.route(1, 2);
        check.same("22: routeRoad(0)", x.routeRoad(0), 1);
        check.same("23: routeCost()", x.routeCost(), 6);
        check.fails("22: routeRoad(1)", INDEX, () -> x.routeRoad(1));
        x.route(2, 2);
        check.same("23: routeCost()", x.routeCost(), 0);
        check.fails("22: routeRoad(0)", INDEX, () -> x.routeRoad(0));
        x.route(0, 2);
        theKeptPath(x);
    }

    /** Promise 23: "with the weights and penalties that it had when it was determined". */
    private static void theCostStaysWhatItWas() {
        RoadOracle x = Build.prepared(3, 0, 1, 5, 1, 2, 6);
        x.route(0, 2);
        x.push();
        x.setWeight(0, 10000);
        theKeptPath(x);
        x.setTurn(0, 1, FORBIDDEN);
        theKeptPath(x);
        x.setOpen(1, false);
        theKeptPath(x);
        x.setUTurn(FORBIDDEN);
        theKeptPath(x);
        x.pop();
        theKeptPath(x);
        x.reach(1, 100);
        x.detour(0, 2, 0);
        x.distance(0, 1);
        x.addJunction();
        theKeptPath(x);
    }

    // ---- Promises 24 and 25

    private static void reach() {
        theBudget();
        equalDistancesByNumber();
        thirtyTwoJunctions();
        indexesOfTheKeptJunctions();
        aRefusedReachKeepsThem();
    }

    /**
     * Promise 24: "Finds the junctions whose distance from a junction is not greater than a budget",
     * "The junction itself is among them.", "Throws IllegalArgumentException if budget is negative",
     * behind the state and the index.
     */
    private static void theBudget() {
        RoadOracle none = Build.network(3, 0, 1, 5, 1, 2, 6);
        RoadOracle x = Build.prepared(3, 0, 1, 5, 1, 2, 6);
        int[][] due = {{0, 1}, {1, 1}, {4, 1}, {5, 2}, {6, 2}, {10, 2}, {11, 3}, {12, 3}, {MAX, 3}};
        for (int[] row : due) {
            check.same("24: reach(0, " + row[0] + ")", x.reach(0, row[0]), row[1]);
            check.same("25: the junction itself", x.reached(0), 0);
            check.same("25: the last one", x.reached(row[1] - 1), row[1] - 1);
            check.fails("25: the one behind it", INDEX, () -> x.reached(row[1]));
        }
        check.same("24: where no road begins", x.reach(2, MAX), 1);
        check.same("25: reached(0)", x.reached(0), 2);
        for (int budget : new int[] {-1, -2, MIN + 1, MIN}) {
            check.fails("24: budget " + budget, ARGUMENT, () -> x.reach(0, budget));
            check.fails("24: the index first", INDEX, () -> x.reach(3, budget));
            check.fails("24: the state first", STATE, () -> none.reach(3, budget));
        }
        for (int number : NO_JUNCTIONS) {
            check.fails("24: from " + number, INDEX, () -> x.reach(number, 0));
        }
    }

    /** Promise 24: "those with equal distances in ascending order of number". */
    private static void equalDistancesByNumber() {
        RoadOracle x = Build.network(32);
        for (int i = 31; i > 0; i--) {
            x.addRoad(0, i, i % 2 == 0 ? 4 : 3);
        }
        x.prepare();
        check.same("24: reach(0, 3)", x.reach(0, 3), 17);
        check.same("24: reach(0, 4)", x.reach(0, 4), 32);
        check.same("25: reached(0)", x.reached(0), 0);
        for (int i = 1; i < 32; i++) {
            check.same("25: reached(" + i + ")", x.reached(i), i <= 16 ? 2 * i - 1 : 2 * (i - 16));
        }
    }

    /** Promise 24: "in ascending order of distance", of 32 junctions that are numbered the other way. */
    private static void thirtyTwoJunctions() {
        RoadOracle x = Build.network(32);
        for (int i = 31; i > 0; i--) {
            x.addRoad(i, i - 1, 1);
        }
        x.prepare();
        for (int budget = 0; budget < 34; budget++) {
            int count = Math.min(budget + 1, 32);
            check.same("24: reach(31, " + budget + ")", x.reach(31, budget), count);
            check.same("25: the last one", x.reached(count - 1), 32 - count);
        }
        for (int i = 0; i < 32; i++) {
            check.same("25: reached(" + i + ")", x.reached(i), 31 - i);
        }
        check.fails("25: reached(32)", INDEX, () -> x.reached(32));
    }

    /** Promise 25: "Throws IndexOutOfBoundsException if there is no such index (also if none are kept)". */
    private static void indexesOfTheKeptJunctions() {
        RoadOracle x = Build.prepared(2, 0, 1, 5);
        check.fails("25: none are kept", INDEX, () -> x.reached(0));
        x.route(0, 1);
        check.fails("25: a path is kept, but none of them", INDEX, () -> x.reached(0));
        x.reach(0, 5);
        for (int index : new int[] {2, 3, 31, 32, -1, -2, MIN, MAX}) {
            check.fails("25: reached(" + index + ")", INDEX, () -> x.reached(index));
        }
        check.same("25: reached(1)", x.reached(1), 1);
    }

    /**
     * Promise 24: "keeps them until the next successful call", so a refused one keeps them, and other
     * methods do.
     */
    private static void aRefusedReachKeepsThem() {
        RoadOracle x = Build.prepared(3, 0, 2, 5, 0, 1, 6);
        x.reach(0, 6);
        check.fails("24: budget", ARGUMENT, () -> x.reach(1, -1));
        check.fails("24: index", INDEX, () -> x.reach(3, 1));
        x.setOpen(0, false);
        x.route(0, 1);
        x.averageDistance(1);
        x.addRoad(1, 0, 1);
        check.fails("24: state", STATE, () -> x.reach(1, 1));
        int[] due = {0, 2, 1};
        for (int i = 0; i < 3; i++) {
            check.same("25: reached(" + i + ")", x.reached(i), due[i]);
        }
        x.prepare();
        check.same("24: the next successful one", x.reach(1, 0), 1);
        check.same("25: reached(0)", x.reached(0), 1);
        check.fails("25: reached(1)", INDEX, () -> x.reached(1));
    }

    // ---- Promise 26

    private static void averageDistance() {
        averageOfNone();
        averageOfSome();
        averageFromJunctionsThatAreThere();
    }

    /** Promise 26: "0 if there are none", the junction itself not being one, with a way round or without. */
    private static void averageOfNone() {
        RoadOracle x = Build.prepared(3, 0, 1, 5, 1, 0, 6);
        check.sameDouble("26: without roads", x.averageDistance(2), 0.0);
        x.setOpen(0, false);
        check.sameDouble("26: with a closed road", x.averageDistance(0), 0.0);
        check.sameDouble("26: with an open one", x.averageDistance(1), 6.0);
        x.setOpen(0, true);
        check.sameDouble("26: the way round does not count", x.averageDistance(0), 5.0);
    }

    /** Promise 26: "divided by the number of these junctions, rounded to the nearest double", for 1 to 31. */
    private static void averageOfSome() {
        RoadOracle x = Build.network(32);
        for (int i = 1; i < 32; i++) {
            x.addRoad(0, i, i * i * 10 - 9);
        }
        x.prepare();
        int sum = 0;
        for (int i = 1; i < 32; i++) {
            x.setOpen(i - 1, false);
        }
        for (int i = 1; i < 32; i++) {
            x.setOpen(i - 1, true);
            sum += i * i * 10 - 9;
            BigDecimal exact = new BigDecimal(sum).divide(new BigDecimal(i), new MathContext(60));
            check.sameDouble("26: of " + i, x.averageDistance(0), exact.doubleValue());
        }
    }

    /**
     * Promise 26: "Throws IllegalStateException if there is no hierarchy", first, and "Throws
     * IndexOutOfBoundsException if there is no such junction".
     */
    private static void averageFromJunctionsThatAreThere() {
        RoadOracle none = Build.network(2, 0, 1, 5);
        RoadOracle x = Build.prepared(2, 0, 1, 5);
        check.sameDouble("26: the last", x.averageDistance(1), 0.0);
        check.fails("26: the one behind it", INDEX, () -> x.averageDistance(2));
        check.fails("26: no hierarchy", STATE, () -> none.averageDistance(0));
        for (int number : NO_JUNCTIONS) {
            check.fails("26: from " + number, INDEX, () -> x.averageDistance(number));
            check.fails("26: no hierarchy", STATE, () -> none.averageDistance(number));
        }
    }

    // ---- Promise 27

    private static void detour() {
        theDifference();
        detourOfTheEmptyPath();
        detourOverAClosedRoad();
        detourChangesNothing();
        detourOfNumbersThatAreThere();
    }

    /** Promise 27: "Returns the difference of the distances; -1 if there would be no path." */
    private static void theDifference() {
        RoadOracle x = Build.prepared(3, 0, 1, 5, 1, 2, 5, 0, 2, 10);
        check.same("27: as far without it", x.detour(0, 2, 0), 0);
        check.same("27: as far without it", x.detour(0, 2, 2), 0);
        x.setWeight(2, 11);
        check.same("27: farther by 1", x.detour(0, 2, 1), 1);
        check.same("27: a road beside the path", x.detour(0, 2, 2), 0);
        x.setWeight(0, 1);
        x.setWeight(1, 1);
        x.setWeight(2, 10000);
        check.same("27: farther by 9998", x.detour(0, 2, 0), 9998);
        check.same("27: the only road", x.detour(0, 1, 0), -1);
        x.setOpen(2, false);
        check.same("27: the last way", x.detour(0, 2, 0), -1);
        x.setOpen(0, false);
        check.fails("27: no path now", NONE, () -> x.detour(0, 2, 1));
    }

    /** Promise 27 and "if s = t, there is also the empty path": it is as long without any road. */
    private static void detourOfTheEmptyPath() {
        RoadOracle x = Build.prepared(3, 0, 1, 5, 1, 0, 5);
        for (int junction = 0; junction < 3; junction++) {
            check.same("27: over road 0", x.detour(junction, junction, 0), 0);
            check.same("27: over road 1", x.detour(junction, junction, 1), 0);
        }
    }

    /** Promise 27: "if a road were closed", and it is: then nothing is farther, and it stays closed. */
    private static void detourOverAClosedRoad() {
        RoadOracle x = Build.prepared(2, 0, 1, 5, 0, 1, 6);
        x.setOpen(0, false);
        check.same("27: closed already", x.detour(0, 1, 0), 0);
        check.same("11: isOpen(0)", x.isOpen(0), false);
        check.same("19: distance(0, 1)", x.distance(0, 1), 6);
        x.setOpen(1, false);
        check.fails("27: no path now", NONE, () -> x.detour(0, 1, 0));
    }

    /** Promise 27: detour tells only; the object is the same behind it, for each of 64 roads. */
    private static void detourChangesNothing() {
        RoadOracle x = State.FULL.make();
        long digest = x.digest();
        int cost = x.routeCost();
        for (int road = 0; road < 64; road++) {
            x.detour(0, 2, road);
            check.same("32: digest()", x.digest(), digest);
        }
        check.same("23: routeCost()", x.routeCost(), cost);
        check.same("22: routeRoad(1)", x.routeRoad(1), 1);
        check.same("11: isOpen(63)", x.isOpen(63), true);
    }

    /**
     * Promise 27: "Throws IllegalStateException if there is no hierarchy", first, then "Throws
     * IndexOutOfBoundsException if there is no such junction or road", then "Throws
     * java.util.NoSuchElementException if there is no path now".
     */
    private static void detourOfNumbersThatAreThere() {
        RoadOracle none = Build.network(2, 0, 1, 5);
        RoadOracle x = Build.prepared(2, 0, 1, 5);
        check.same("27: the last road", x.detour(0, 1, 0), -1);
        check.fails("27: the one behind it", INDEX, () -> x.detour(0, 1, 1));
        check.fails("27: the one behind it, no path", INDEX, () -> x.detour(1, 0, 1));
        check.fails("27: no path", NONE, () -> x.detour(1, 0, 0));
        for (int number : NO_ROADS) {
            check.fails("27: road " + number, INDEX, () -> x.detour(1, 0, number));
            check.fails("27: no hierarchy", STATE, () -> none.detour(1, 0, number));
        }
        for (int number : NO_JUNCTIONS) {
            check.fails("27: from " + number, INDEX, () -> x.detour(number, 0, 0));
            check.fails("27: to " + number, INDEX, () -> x.detour(1, number, 0));
            check.fails("27: both " + number, INDEX, () -> x.detour(number, number, 0));
            check.fails("27: no hierarchy", STATE, () -> none.detour(number, 0, 0));
        }
    }
}
