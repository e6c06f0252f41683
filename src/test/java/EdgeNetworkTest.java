/**
 * Promises 1 to 12 and what the Description says of the network, sentence by sentence: the last
 * number that is taken and the first that is refused, the empty and the full object.
 */
public final class EdgeNetworkTest extends Edge {
    public static void main(String[] args) {
        aNewObject();
        junctions();
        roads();
        weights();
        closures();
        turns();
        uTurns();
        reading();
        changedArcs();
        check.finish("EdgeNetworkTest");
    }

    // ---- Promise 1

    private static void aNewObject() {
        noJunctionsAtFirst();
        noRoadsAtFirst();
        noPlacesAtFirst();
        noLevelsAtFirst();
        noHierarchyAtFirst();
        nothingIsKeptAtFirst();
        objectsShareNothing();
    }

    /** Promise 1: "Creates an oracle without junctions": no number is one of a junction. */
    private static void noJunctionsAtFirst() {
        RoadOracle x = new RoadOracle();
        check.same("junctionCount()", x.junctionCount(), 0);
        for (int number : new int[] {0, 1, 31, -1, MIN, MAX}) {
            check.fails("setPlace at " + number, INDEX, () -> x.setPlace(number, 0, true));
            check.fails("addRoad from and to " + number, INDEX, () -> x.addRoad(number, number, 1));
        }
    }

    /** Promise 1: "without .. roads": no number is one of a road. */
    private static void noRoadsAtFirst() {
        RoadOracle x = new RoadOracle();
        check.same("roadCount()", x.roadCount(), 0);
        for (int number : new int[] {0, 1, 63, -1, MIN, MAX}) {
            check.fails("weight(" + number + ")", INDEX, () -> x.weight(number));
            check.fails("isOpen(" + number + ")", INDEX, () -> x.isOpen(number));
            check.fails("setWeight(" + number + ", 1)", INDEX, () -> x.setWeight(number, 1));
            check.fails("setOpen(" + number + ", false)", INDEX, () -> x.setOpen(number, false));
            check.fails("setTurn(0, " + number + ", 0)", INDEX, () -> x.setTurn(0, number, 0));
            check.fails("turnPenalty(" + number + ", 0)", INDEX, () -> x.turnPenalty(number, 0));
        }
    }

    /** Promise 1: "without .. places": none of any kind at any of 32 junctions. */
    private static void noPlacesAtFirst() {
        RoadOracle x = Build.network(32);
        for (int junction = 0; junction < 32; junction++) {
            for (int kind = 0; kind < 4; kind++) {
                check.same("a place at first", x.setPlace(junction, kind, false), false);
            }
        }
    }

    /** Promise 1: "without .. levels": there is none to close, and the first is number 1. */
    private static void noLevelsAtFirst() {
        RoadOracle x = new RoadOracle();
        check.fails("pop()", STATE, x::pop);
        check.same("push()", x.push(), 1);
    }

    /** Promise 1: "without .. hierarchy". */
    private static void noHierarchyAtFirst() {
        RoadOracle x = new RoadOracle();
        check.same("isPrepared()", x.isPrepared(), false);
        check.same("arcCount()", x.arcCount(), 0);
        check.fails("position(0)", STATE, () -> x.position(0));
        check.fails("distance(0, 0)", STATE, () -> x.distance(0, 0));
    }

    /** Promises 22, 23 and 25: "also if no path is kept", "0 if none is kept", "also if none are kept". */
    private static void nothingIsKeptAtFirst() {
        RoadOracle x = new RoadOracle();
        check.same("routeCost()", x.routeCost(), 0);
        for (int index : new int[] {0, 1, -1, MIN, MAX}) {
            check.fails("routeRoad(" + index + ")", INDEX, () -> x.routeRoad(index));
            check.fails("reached(" + index + ")", INDEX, () -> x.reached(index));
        }
    }

    /** Promise 1: a second new object is without all that the first has got. */
    private static void objectsShareNothing() {
        RoadOracle full = State.FULL.make();
        RoadOracle x = new RoadOracle();
        check.same("digest()", x.digest(), fold(0, 0, 0, 0));
        check.same("routeCost()", x.routeCost(), 0);
        check.same("addJunction()", x.addJunction(), 0);
        check.same("setPlace(0, 3, true)", x.setPlace(0, 3, true), false);
        check.same("the first keeps its own", full.junctionCount(), 32);
    }

    // ---- Promises 2 and 8

    private static void junctions() {
        junctionsAreNumberedFrom0();
        the33rdJunctionIsRefused();
        aNewJunctionKeepsTheHierarchy();
    }

    /**
     * Description: "Junctions are numbered from 0 in the order of their creation; there are at most
     * 32." Promise 2: "Returns the number of the junction." Promise 8: "Returns the number of
     * junctions.", from 0 to 32.
     */
    private static void junctionsAreNumberedFrom0() {
        RoadOracle x = new RoadOracle();
        for (int i = 0; i < 32; i++) {
            int next = i;
            check.same("8: junctionCount()", x.junctionCount(), i);
            check.fails("2: junction " + i + " before", INDEX, () -> x.setPlace(next, 0, false));
            check.same("2: addJunction()", x.addJunction(), i);
            check.same("2: junction " + i + " behind", x.setPlace(i, 0, false), false);
        }
        check.same("8: junctionCount()", x.junctionCount(), 32);
    }

    /** Promise 2: "Throws IllegalStateException if there are 32 junctions", as often as it is called. */
    private static void the33rdJunctionIsRefused() {
        RoadOracle x = Build.network(31);
        check.same("2: the 32nd", x.addJunction(), 31);
        for (int i = 0; i < 3; i++) {
            check.fails("2: the 33rd", STATE, x::addJunction);
            check.same("8: junctionCount()", x.junctionCount(), 32);
        }
        check.fails("2: junction 32", INDEX, () -> x.setPlace(32, 0, true));
        check.fails("2: junction 32", INDEX, () -> x.addRoad(0, 32, 1));
        check.same("2: junction 31", x.addRoad(31, 0, 1), 0);
    }

    /** Description: "addRoad discards the hierarchy. No other method does so", addJunction neither. */
    private static void aNewJunctionKeepsTheHierarchy() {
        RoadOracle x = Build.prepared(2, 0, 1, 4, 1, 0, 4);
        for (int i = 2; i < 32; i++) {
            x.addJunction();
            check.same("2: isPrepared()", x.isPrepared(), true);
            check.same("2: no path to the new one", x.distance(0, i), -1);
            check.same("2: the empty path at it", x.distance(i, i), 0);
        }
        check.same("2: arcCount()", x.arcCount(), 2);
        check.same("2: distance(0, 1)", x.distance(0, 1), 4);
    }

    // ---- Promises 3 and 9

    private static void roads() {
        roadsAreNumberedFrom0();
        the65thRoadIsRefused();
        roadsLeadBetweenJunctionsThatAreThere();
        aRoadLeadsToAnotherJunction();
        aRoadHasAWeightFrom1To10000();
        theFirstExceptionOfAddRoad();
        aNewRoadIsOpen();
        severalRoadsLeadTheSameWay();
        aNewRoadDiscardsTheHierarchy();
    }

    /**
     * Description: "Roads are numbered from 0 in the order of their creation; there are at most 64."
     * Promise 3: "Returns the number of the road." Promise 9: "Returns the number of roads.", 0 to 64.
     */
    private static void roadsAreNumberedFrom0() {
        RoadOracle x = Build.network(32);
        for (int i = 0; i < 64; i++) {
            int next = i;
            check.same("9: roadCount()", x.roadCount(), i);
            check.fails("3: road " + i + " before", INDEX, () -> x.weight(next));
            check.same("3: addRoad", x.addRoad(i % 32, (i + 5) % 32, i + 1), i);
            check.same("3: road " + i + " behind", x.weight(i), i + 1);
        }
        check.same("9: roadCount()", x.roadCount(), 64);
    }

    /** Promise 3: "Throws IllegalStateException if there are 64 roads", as often as it is called. */
    private static void the65thRoadIsRefused() {
        RoadOracle x = Build.full();
        for (int i = 0; i < 3; i++) {
            check.fails("3: the 65th", STATE, () -> x.addRoad(0, 1, 1));
            check.same("9: roadCount()", x.roadCount(), 64);
        }
        check.fails("3: road 64", INDEX, () -> x.weight(64));
        check.same("3: road 63", x.weight(63), 64);
        check.same("13: prepare()", x.prepare(), 32 * 31);
        check.fails("3: the 65th", STATE, () -> x.addRoad(0, 1, 1));
        check.same("3: the hierarchy stays", x.isPrepared(), true);
    }

    /** Promise 3: "Throws IndexOutOfBoundsException if there is no such junction", for 1 to 32 junctions. */
    private static void roadsLeadBetweenJunctionsThatAreThere() {
        RoadOracle x = new RoadOracle();
        for (int i = 0; i < 32; i++) {
            int last = x.addJunction();
            check.fails("3: to the one behind the last", INDEX, () -> x.addRoad(0, last + 1, 1));
            check.fails("3: from the one behind the last", INDEX, () -> x.addRoad(last + 1, 0, 1));
            if (last > 0) {
                check.same("3: to the last", x.addRoad(0, last, 1), 2 * last - 2);
                check.same("3: from the last", x.addRoad(last, 0, 1), 2 * last - 1);
            }
        }
        for (int number : NO_JUNCTIONS) {
            check.fails("3: from " + number, INDEX, () -> x.addRoad(number, 0, 1));
            check.fails("3: to " + number, INDEX, () -> x.addRoad(31, number, 1));
        }
        check.same("9: roadCount()", x.roadCount(), 62);
    }

    /** Promise 3: "Throws IllegalArgumentException if from and to are the same", at each junction. */
    private static void aRoadLeadsToAnotherJunction() {
        RoadOracle one = Build.network(1);
        check.fails("3: one junction", ARGUMENT, () -> one.addRoad(0, 0, 1));
        RoadOracle x = Build.network(32);
        for (int i = 0; i < 32; i++) {
            int number = i;
            check.fails("3: from " + i + " to itself", ARGUMENT, () -> x.addRoad(number, number, 1));
        }
        check.same("9: roadCount()", x.roadCount(), 0);
        check.same("3: to a neighbour", x.addRoad(30, 31, 1), 0);
        check.same("3: to a neighbour", x.addRoad(31, 30, 1), 1);
    }

    /**
     * Description: "it has a weight from 1 to 10000". Promise 3: "Throws IllegalArgumentException if
     * .. weight is not 1 to 10000".
     */
    private static void aRoadHasAWeightFrom1To10000() {
        RoadOracle x = Build.network(2);
        for (int weight : new int[] {1, 2, 9999, 10000}) {
            check.same("3: weight " + weight, x.weight(x.addRoad(0, 1, weight)), weight);
        }
        for (int weight : new int[] {0, -1, 10001, 10002, 65537, MIN, MIN + 1, MAX}) {
            check.fails("3: weight " + weight, ARGUMENT, () -> x.addRoad(0, 1, weight));
        }
        check.same("9: roadCount()", x.roadCount(), 4);
    }

    /**
     * Description: "If several exceptions apply, the one that is named first is thrown.", for addRoad:
     * the index before the argument, and that before the state.
     */
    private static void theFirstExceptionOfAddRoad() {
        RoadOracle x = Build.full();
        check.fails("3: index, argument, state", INDEX, () -> x.addRoad(2, 2, 0));
        check.fails("3: index, argument, state", INDEX, () -> x.addRoad(-1, -1, 10001));
        check.fails("3: index of to, argument, state", INDEX, () -> x.addRoad(0, 2, 0));
        check.fails("3: index, state", INDEX, () -> x.addRoad(0, 2, 1));
        check.fails("3: argument, state", ARGUMENT, () -> x.addRoad(1, 1, 1));
        check.fails("3: argument, state", ARGUMENT, () -> x.addRoad(0, 1, 0));
        check.fails("3: argument, state", ARGUMENT, () -> x.addRoad(0, 1, 10001));
        check.fails("3: state", STATE, () -> x.addRoad(0, 1, 10000));
    }

    /** Description: "a new road is open", the first and the 64th, also behind a closed one. */
    private static void aNewRoadIsOpen() {
        RoadOracle x = Build.network(2);
        for (int i = 0; i < 64; i++) {
            x.addRoad(0, 1, 1);
            check.same("3: isOpen(" + i + ")", x.isOpen(i), true);
            x.setOpen(i, false);
        }
    }

    /** Description: "Several roads can lead from the same junction to the same junction.", all 64. */
    private static void severalRoadsLeadTheSameWay() {
        RoadOracle x = Build.network(2);
        for (int i = 0; i < 64; i++) {
            check.same("3: addRoad(0, 1, ..)", x.addRoad(0, 1, 100 - i), i);
        }
        check.same("13: prepare()", x.prepare(), 0);
        check.same("16: arcCount()", x.arcCount(), 0);
        check.same("21: route(0, 1)", x.route(0, 1), 1);
        check.same("22: routeRoad(0)", x.routeRoad(0), 63);
    }

    /** Description: "addRoad discards the hierarchy.", with the 64th road too, but not when refused. */
    private static void aNewRoadDiscardsTheHierarchy() {
        RoadOracle x = Build.network(2);
        for (int i = 0; i < 64; i++) {
            x.addRoad(0, 1, 1);
            check.same("3: isPrepared()", x.isPrepared(), false);
            check.same("16: arcCount()", x.arcCount(), 0);
            check.same("13: prepare()", x.prepare(), 0);
        }
        check.fails("3: index", INDEX, () -> x.addRoad(0, 2, 1));
        check.fails("3: argument", ARGUMENT, () -> x.addRoad(0, 0, 1));
        check.fails("3: state", STATE, () -> x.addRoad(0, 1, 1));
        check.same("3: isPrepared()", x.isPrepared(), true);
    }

    // ---- Promise 4

    private static void weights() {
        setWeightTakes1To10000();
        setWeightOfRoadsThatAreThere();
    }

    /** Promise 4: "Throws IllegalArgumentException if weight is not 1 to 10000". */
    private static void setWeightTakes1To10000() {
        RoadOracle x = Build.prepared(2, 0, 1, 5);
        for (int weight : new int[] {1, 2, 9999, 10000}) {
            x.setWeight(0, weight);
            check.same("4: weight(0)", x.weight(0), weight);
            check.same("4: distance(0, 1)", x.distance(0, 1), weight);
        }
        for (int weight : new int[] {0, -1, 10001, 10002, MIN, MIN + 1, MAX}) {
            check.fails("4: weight " + weight, ARGUMENT, () -> x.setWeight(0, weight));
            check.same("4: weight(0)", x.weight(0), 10000);
        }
    }

    /**
     * Promise 4: "Throws IndexOutOfBoundsException if there is no such road", before the argument;
     * with 1 road and with 64.
     */
    private static void setWeightOfRoadsThatAreThere() {
        RoadOracle one = Build.network(2, 0, 1, 5);
        check.same("4: the only road", one.setWeight(0, 6), 0);
        check.fails("4: the one behind it", INDEX, () -> one.setWeight(1, 6));
        RoadOracle x = Build.full();
        x.setWeight(63, 77);
        check.same("4: weight(63)", x.weight(63), 77);
        check.same("4: weight(62)", x.weight(62), 63);
        for (int number : NO_ROADS) {
            check.fails("4: road " + number, INDEX, () -> x.setWeight(number, 1));
            check.fails("4: road " + number + " and weight", INDEX, () -> x.setWeight(number, 0));
        }
    }

    // ---- Promise 5

    private static void closures() {
        eachRoadIsOpenOrClosedByItself();
        openingTwiceAndClosingTwice();
    }

    /**
     * Promise 5: "whether it is open from now on", for each of 64 roads and no other; "Throws
     * IndexOutOfBoundsException if there is no such road".
     */
    private static void eachRoadIsOpenOrClosedByItself() {
        for (int i = 0; i < 64; i++) {
            RoadOracle x = Build.full();
            x.setOpen(i, false);
            for (int k = 0; k < 64; k++) {
                check.same("11: isOpen(" + k + ")", x.isOpen(k), k != i);
            }
            x.setOpen(i, true);
            check.same("11: isOpen(" + i + ")", x.isOpen(i), true);
        }
        RoadOracle x = Build.full();
        for (int number : NO_ROADS) {
            check.fails("5: close " + number, INDEX, () -> x.setOpen(number, false));
            check.fails("5: open " + number, INDEX, () -> x.setOpen(number, true));
        }
    }

    /** Promise 5: "Opens or closes a road", also one that is so already. */
    private static void openingTwiceAndClosingTwice() {
        RoadOracle x = Build.prepared(2, 0, 1, 5, 1, 0, 5);
        check.same("5: open it again", x.setOpen(0, true), 0);
        check.same("5: close it", x.setOpen(0, false), 2);
        check.same("5: close it again", x.setOpen(0, false), 0);
        check.same("5: isOpen(0)", x.isOpen(0), false);
        check.same("5: open it", x.setOpen(0, true), 2);
        check.same("5: isOpen(0)", x.isOpen(0), true);
    }

    // ---- Promises 6 and 12

    private static void turns() {
        setTurnTakesMinus2To1000();
        onlyFollowersHaveTurns();
        turnsOfRoadsThatAreThere();
        aTurnIsDefaultAtFirst();
        thePenaltyOfDefault();
        whenATurnIsNotPossible();
        closuresDoNotMatterForTurns();
    }

    /**
     * Description: "a penalty from 0 to 1000, FORBIDDEN (-1) or DEFAULT (-2)". Promise 6: "Throws
     * IllegalArgumentException if .. setting is not -2 to 1000".
     */
    private static void setTurnTakesMinus2To1000() {
        RoadOracle x = Build.prepared(3, 0, 1, 5, 1, 2, 5);
        int[] settings = {0, 1, 999, 1000, FORBIDDEN, DEFAULT};
        int[] penalties = {0, 1, 999, 1000, -1, 0};
        for (int i = 0; i < settings.length; i++) {
            x.setTurn(0, 1, settings[i]);
            check.same("12: setting " + settings[i], x.turnPenalty(0, 1), penalties[i]);
            check.same("19: distance(0, 2)", x.distance(0, 2),
                    penalties[i] < 0 ? -1 : 10 + penalties[i]);
        }
        x.setTurn(0, 1, 17);
        for (int setting : new int[] {-3, -4, 1001, 1002, MIN, MIN + 1, MAX}) {
            check.fails("6: setting " + setting, ARGUMENT, () -> x.setTurn(0, 1, setting));
            check.same("12: turnPenalty(0, 1)", x.turnPenalty(0, 1), 17);
        }
    }

    /**
     * Description: "A road b follows a road a if b begins at the junction where a ends." Promises 6
     * and 12: "Throws IllegalArgumentException if second does not follow first": the road itself,
     * the road before, a parallel one, one far off.
     */
    private static void onlyFollowersHaveTurns() {
        RoadOracle x = Build.network(4, 0, 1, 5, 1, 2, 5, 0, 1, 5, 2, 3, 5);
        boolean[][] follows = {
            {false, true, false, false}, {false, false, false, true},
            {false, true, false, false}, {false, false, false, false}
        };
        for (int i = 0; i < 4; i++) {
            for (int k = 0; k < 4; k++) {
                int first = i;
                int second = k;
                if (follows[i][k]) {
                    check.same("6: a follower", x.setTurn(first, second, 3), 0);
                    check.same("12: a follower", x.turnPenalty(first, second), 3);
                } else {
                    check.fails("6: no follower", ARGUMENT, () -> x.setTurn(first, second, 3));
                    check.fails("6: nor the setting", ARGUMENT, () -> x.setTurn(first, second, -3));
                    check.fails("12: no follower", ARGUMENT, () -> x.turnPenalty(first, second));
                }
            }
        }
    }

    /**
     * Promises 6 and 12: "Throws IndexOutOfBoundsException if there is no such road", before the
     * argument; of 64 roads the first and the last have turns.
     */
    private static void turnsOfRoadsThatAreThere() {
        RoadOracle x = Build.full();
        x.setTurn(0, 63, 8);
        x.setTurn(63, 0, 9);
        check.same("12: turnPenalty(0, 63)", x.turnPenalty(0, 63), 8);
        check.same("12: turnPenalty(63, 0)", x.turnPenalty(63, 0), 9);
        for (int number : NO_ROADS) {
            check.fails("6: first " + number, INDEX, () -> x.setTurn(number, 0, 0));
            check.fails("6: second " + number, INDEX, () -> x.setTurn(0, number, 0));
            check.fails("6: both and the setting", INDEX, () -> x.setTurn(number, number, 1001));
            check.fails("12: first " + number, INDEX, () -> x.turnPenalty(number, 0));
            check.fails("12: second " + number, INDEX, () -> x.turnPenalty(0, number));
        }
    }

    /** Description: "it is DEFAULT at first", each of the turns of 64 roads, so all follow the U-turn penalty. */
    private static void aTurnIsDefaultAtFirst() {
        for (int first = 0; first < 64; first++) {
            RoadOracle x = Build.full();
            x.setUTurn(31);
            for (int second = 1 - first % 2; second < 64; second += 2) {
                check.same("12: a turn at first", x.turnPenalty(first, second), 31);
            }
        }
    }

    /**
     * Description: "The penalty of a turn with the setting DEFAULT is the U-turn penalty if b ends at
     * the junction where a begins, and 0 otherwise.", over a road of its own or a parallel one.
     */
    private static void thePenaltyOfDefault() {
        RoadOracle x = Build.network(3, 0, 1, 5, 1, 0, 5, 1, 0, 6, 1, 2, 5, 2, 0, 5);
        int[][] turns = {{0, 1, 100}, {0, 2, 100}, {0, 3, 0}, {1, 0, 100}, {2, 0, 100}, {3, 4, 0}, {4, 0, 0}};
        for (int[] turn : turns) {
            check.same("12: DEFAULT at first", x.turnPenalty(turn[0], turn[1]), turn[2]);
            x.setTurn(turn[0], turn[1], 7);
            check.same("12: its own", x.turnPenalty(turn[0], turn[1]), 7);
            x.setTurn(turn[0], turn[1], DEFAULT);
            check.same("12: DEFAULT again", x.turnPenalty(turn[0], turn[1]), turn[2]);
        }
    }

    /**
     * Description: "A turn is possible if its setting is not FORBIDDEN, and, if the setting is DEFAULT
     * and the U-turn penalty applies, the U-turn penalty is not FORBIDDEN either." Promise 12: "-1 if
     * it is not possible".
     */
    private static void whenATurnIsNotPossible() {
        int[] uTurns = {0, 1000, FORBIDDEN};
        int[] settings = {0, 1000, FORBIDDEN, DEFAULT};
        for (int uTurn : uTurns) {
            for (int setting : settings) {
                RoadOracle x = Build.prepared(3, 0, 1, 5, 1, 0, 5, 1, 2, 5);
                x.setUTurn(uTurn);
                x.setTurn(0, 1, setting);
                x.setTurn(0, 2, setting);
                int back = setting == DEFAULT ? uTurn : setting;
                int onward = setting == DEFAULT ? 0 : setting;
                check.same("12: back", x.turnPenalty(0, 1), back);
                check.same("12: onward", x.turnPenalty(0, 2), onward);
                check.same("20: back", x.distanceBehind(0, 0), back < 0 ? -1 : 5 + back);
                check.same("20: onward", x.distanceBehind(0, 2), onward < 0 ? -1 : 5 + onward);
            }
        }
    }

    /** Description: a turn is possible or not by its setting and the U-turn penalty alone. */
    private static void closuresDoNotMatterForTurns() {
        RoadOracle x = Build.prepared(2, 0, 1, 5, 1, 0, 5);
        x.setOpen(0, false);
        x.setOpen(1, false);
        check.same("12: between closed roads", x.turnPenalty(0, 1), 100);
        check.same("6: between closed roads", x.setTurn(0, 1, 1000), 0);
        check.same("12: its own", x.turnPenalty(0, 1), 1000);
        check.same("5: open one", x.setOpen(0, true), 0);
        check.same("5: open the other", x.setOpen(1, true), 2);
        check.same("18: arcCost(0, 1)", x.arcCost(0, 1), 1005);
    }

    // ---- Promise 7

    private static void uTurns() {
        setUTurnTakesMinus1To1000();
        theUTurnPenaltyIs100AtFirst();
    }

    /**
     * Description: "The U-turn penalty is a number from 0 to 1000, or FORBIDDEN". Promise 7: "Throws
     * IllegalArgumentException if penalty is not -1 to 1000", and so DEFAULT is refused.
     */
    private static void setUTurnTakesMinus1To1000() {
        RoadOracle x = Build.prepared(2, 0, 1, 5, 1, 0, 5);
        for (int penalty : new int[] {FORBIDDEN, 0, 1, 999, 1000}) {
            x.setUTurn(penalty);
            check.same("12: turnPenalty(0, 1)", x.turnPenalty(0, 1), penalty);
            check.same("18: arcCost(0, 1)", x.arcCost(0, 1), penalty < 0 ? -1 : 5 + penalty);
        }
        for (int penalty : new int[] {DEFAULT, -3, 1001, 1002, MIN, MIN + 1, MAX}) {
            check.fails("7: penalty " + penalty, ARGUMENT, () -> x.setUTurn(penalty));
            check.same("12: turnPenalty(0, 1)", x.turnPenalty(0, 1), 1000);
        }
    }

    /** Description: "it is 100 at first", and it can be set before there is a road. */
    private static void theUTurnPenaltyIs100AtFirst() {
        RoadOracle x = Build.prepared(2, 0, 1, 5, 1, 0, 5);
        check.same("12: turnPenalty(0, 1)", x.turnPenalty(0, 1), 100);
        check.same("7: setUTurn(100)", x.setUTurn(100), 0);
        RoadOracle y = new RoadOracle();
        check.same("7: on an empty object", y.setUTurn(FORBIDDEN), 0);
        check.fails("7: refused there too", ARGUMENT, () -> y.setUTurn(DEFAULT));
        y.addJunction();
        y.addJunction();
        y.addRoad(0, 1, 1);
        y.addRoad(1, 0, 1);
        check.same("12: it holds for new roads", y.turnPenalty(0, 1), -1);
    }

    // ---- Promises 10 and 11

    /**
     * Promises 10 and 11: "Throws IndexOutOfBoundsException if there is no such road", for 1 to 64
     * roads.
     */
    private static void reading() {
        RoadOracle x = Build.network(2);
        for (int i = 0; i < 64; i++) {
            int next = i + 1;
            x.addRoad(0, 1, i % 2 == 0 ? 1 : 10000);
            check.same("10: the last road", x.weight(i), i % 2 == 0 ? 1 : 10000);
            check.same("11: the last road", x.isOpen(i), true);
            check.fails("10: the one behind it", INDEX, () -> x.weight(next));
            check.fails("11: the one behind it", INDEX, () -> x.isOpen(next));
        }
        for (int number : NO_ROADS) {
            check.fails("10: road " + number, INDEX, () -> x.weight(number));
            check.fails("11: road " + number, INDEX, () -> x.isOpen(number));
        }
    }

    // ---- the number of changed arcs, promises 4 to 7

    private static void changedArcs() {
        noChangedArcsWithoutAHierarchy();
        noChangedArcsWhereCostsStay();
        arcsThatGetOrLoseTheirCost();
        allArcsChange();
        anArcThatAnswersOtherwiseAtTheSameCost();
    }

    /** Description: "0 if there is no hierarchy", before the first one and behind addRoad. */
    private static void noChangedArcsWithoutAHierarchy() {
        RoadOracle x = Build.network(2, 0, 1, 5, 1, 0, 5);
        nothingIsCounted(x);
        x.prepare();
        check.same("4: with a hierarchy", x.setWeight(0, 8), 1);
        x.addRoad(0, 1, 5);
        nothingIsCounted(x);
    }

    private static void nothingIsCounted(RoadOracle x) {
        check.same("4: setWeight", x.setWeight(0, 6), 0);
        check.same("5: close", x.setOpen(0, false), 0);
        check.same("5: open", x.setOpen(0, true), 0);
        check.same("6: setTurn", x.setTurn(0, 1, FORBIDDEN), 0);
        check.same("6: setTurn", x.setTurn(0, 1, DEFAULT), 0);
        check.same("7: setUTurn", x.setUTurn(3), 0);
        x.push();
        x.setWeight(0, 7);
        check.same("31: pop", x.pop(), 0);
    }

    /** Description: only arcs count that "have a cost afterwards that is different from the one before". */
    private static void noChangedArcsWhereCostsStay() {
        RoadOracle x = Build.prepared(3, 0, 1, 5, 1, 0, 6, 1, 2, 7);
        check.same("4: the same weight", x.setWeight(0, 5), 0);
        check.same("5: open already", x.setOpen(0, true), 0);
        check.same("6: DEFAULT already", x.setTurn(0, 1, DEFAULT), 0);
        check.same("6: what DEFAULT costs", x.setTurn(0, 1, 100), 0);
        check.same("6: what DEFAULT costs", x.setTurn(0, 2, 0), 0);
        check.same("7: 100 already", x.setUTurn(100), 0);
        check.same("4: arcs lead from road 2 only to none", x.setWeight(2, 8), 1);
        RoadOracle lone = Build.prepared(2, 0, 1, 5);
        check.same("4: no arcs", lone.setWeight(0, 10000), 0);
        check.same("5: no arcs", lone.setOpen(0, false), 0);
        check.same("7: no arcs", lone.setUTurn(FORBIDDEN), 0);
    }

    /** Description: those count that "have a cost only before or only afterwards". */
    private static void arcsThatGetOrLoseTheirCost() {
        RoadOracle x = Build.prepared(2, 0, 1, 5, 1, 0, 6);
        check.same("6: one loses it", x.setTurn(0, 1, FORBIDDEN), 1);
        check.same("6: one has none, before and afterwards", x.setTurn(0, 1, FORBIDDEN), 0);
        check.same("4: one has none, one changes", x.setWeight(0, 9), 1);
        check.same("4: it has none", x.setWeight(1, 9), 0);
        check.same("7: the other loses it", x.setUTurn(FORBIDDEN), 1);
        check.same("5: none has one", x.setOpen(0, false), 0);
        check.same("5: nor now", x.setOpen(0, true), 0);
        check.same("7: one gets it", x.setUTurn(0), 1);
        check.same("6: the other gets it", x.setTurn(0, 1, 1000), 1);
        check.same("5: both lose it", x.setOpen(1, false), 2);
        check.same("5: both get it", x.setOpen(1, true), 2);
    }

    /**
     * Description: "return how many arcs of the hierarchy ..", at most all. With 32 roads forth and 32
     * back, all turns are U-turns: 2 * 32 * 32 arcs, and 32 * 31 shortcuts between the odd roads, all
     * of them over road 0.
     */
    private static void allArcsChange() {
        RoadOracle x = Build.full();
        x.prepare();
        int turns = 2 * 32 * 32;
        int shortcuts = 32 * 31;
        check.same("16: arcCount()", x.arcCount(), turns + shortcuts);
        check.same("7: setUTurn(99)", x.setUTurn(99), turns + shortcuts);
        check.same("7: setUTurn(FORBIDDEN)", x.setUTurn(FORBIDDEN), turns + shortcuts);
        check.same("7: setUTurn(FORBIDDEN)", x.setUTurn(FORBIDDEN), 0);
        check.same("7: setUTurn(1000)", x.setUTurn(1000), turns + shortcuts);
        check.same("5: the arcs of road 0, and all shortcuts", x.setOpen(0, false), 64 + shortcuts);
        check.same("4: a road that is closed", x.setWeight(0, 10000), 0);
        check.same("5: it is no longer the lightest", x.setOpen(0, true), 64);
    }

    /** Description: an arc counts by its cost alone, not by the way that has this cost. */
    private static void anArcThatAnswersOtherwiseAtTheSameCost() {
        // Arcs over the parallel roads 1 and 2, of which the one or the other is the lighter.
        RoadOracle x = Build.prepared(3, 0, 1, 5, 1, 2, 7, 1, 2, 7, 2, 0, 9);
        check.same("18: arcCost(0, 3)", x.arcCost(0, 3), 16);
        check.same("5: only the arcs of road 1", x.setOpen(1, false), 2);
        check.same("18: arcCost(0, 3)", x.arcCost(0, 3), 16);
        check.same("4: the arcs to road 2 and the shortcut", x.setWeight(2, 6), 2);
        check.same("18: arcCost(0, 3)", x.arcCost(0, 3), 15);
        check.same("5: only the arcs of road 1", x.setOpen(1, true), 2);
    }
}
