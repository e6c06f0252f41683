/**
 * Every method that can throw, with every combination of arguments at the edges, in every state of
 * State. Each test holds three sentences: the "Throws" lines of its promise, and of the Description
 * "If several exceptions apply, the one that is named first is thrown" (the conditions are tested in
 * the order in which the promise names them) and "A method that throws an exception changes
 * nothing" (whatever can be seen of the object is looked at behind the refused calls).
 */
public final class RefusedCallsTest extends Edge {
    private static final int[] NUMBERS =
            {MIN, MIN + 1, -3, -2, -1, 0, 1, 2, 3, 4, 5, 6, 31, 32, 63, 64, MAX};
    private static final int[] WEIGHTS = {MIN, -10000, -1, 0, 1, 10000, 10001, MAX};
    private static final int[] SETTINGS = {MIN, -1000, -3, -2, -1, 0, 1000, 1001, MAX};
    private static final int[] BUDGETS = {MIN, -2, -1, 0, 1, MAX};
    private static final boolean[] TRUTHS = {true, false};

    private static State state;
    private static Refusals refusals;

    public static void main(String[] args) {
        for (State each : State.values()) {
            state = each;
            refusals = new Refusals(check, each);
            theStateIsWhatItSays();
            network();
            hierarchy();
            paths();
            placesAndLevels();
            refusals.finish();
        }
        check.finish("RefusedCallsTest");
    }

    private static void network() {
        addJunction();
        addRoad();
        setWeight();
        setOpen();
        setTurn();
        setUTurn();
        weightAndIsOpen();
        turnPenalty();
    }

    private static void hierarchy() {
        prepare();
        position();
        hasArc();
        arcCost();
    }

    private static void paths() {
        distance();
        distanceBehind();
        route();
        routeRoad();
        reach();
        reached();
        averageDistance();
        detour();
    }

    private static void placesAndLevels() {
        setPlace();
        nearest();
        push();
        pop();
    }

    /** The tests below rest on the numbers of the state. */
    private static void theStateIsWhatItSays() {
        RoadOracle x = state.make();
        check.same(state + ": junctionCount()", x.junctionCount(), state.junctions);
        check.same(state + ": roadCount()", x.roadCount(), state.roads);
        check.same(state + ": isPrepared()", x.isPrepared(), state.prepared);
        for (int i = 0; i < state.levels; i++) {
            check.takes(state + ": pop()", x::pop);
        }
        check.fails(state + ": pop()", STATE, x::pop);
    }

    /** Promise 2: "Throws IllegalStateException if there are 32 junctions". */
    private static void addJunction() {
        refusals.call(state.junctions == 32 ? STATE : null, "addJunction", x -> x.addJunction());
    }

    /**
     * Promise 3: "Throws IndexOutOfBoundsException if there is no such junction", "Throws
     * IllegalArgumentException if from and to are the same, or weight is not 1 to 10000", "Throws
     * IllegalStateException if there are 64 roads".
     */
    private static void addRoad() {
        for (int from : NUMBERS) {
            for (int to : NUMBERS) {
                for (int weight : WEIGHTS) {
                    Class<? extends RuntimeException> due = null;
                    if (!state.hasJunction(from) || !state.hasJunction(to)) {
                        due = INDEX;
                    } else if (from == to || weight < 1 || weight > 10000) {
                        due = ARGUMENT;
                    } else if (state.roads == 64) {
                        due = STATE;
                    }
                    refusals.call(due, "addRoad", x -> x.addRoad(from, to, weight), from, to, weight);
                }
            }
        }
    }

    /**
     * Promise 4: "Throws IndexOutOfBoundsException if there is no such road", "Throws
     * IllegalArgumentException if weight is not 1 to 10000".
     */
    private static void setWeight() {
        for (int road : NUMBERS) {
            for (int weight : WEIGHTS) {
                Class<? extends RuntimeException> due = null;
                if (!state.hasRoad(road)) {
                    due = INDEX;
                } else if (weight < 1 || weight > 10000) {
                    due = ARGUMENT;
                }
                refusals.call(due, "setWeight", x -> x.setWeight(road, weight), road, weight);
            }
        }
    }

    /** Promise 5: "Throws IndexOutOfBoundsException if there is no such road". */
    private static void setOpen() {
        for (int road : NUMBERS) {
            for (boolean isOpen : TRUTHS) {
                refusals.call(state.hasRoad(road) ? null : INDEX, "setOpen",
                        x -> x.setOpen(road, isOpen), road, isOpen);
            }
        }
    }

    /**
     * Promise 6: "Throws IndexOutOfBoundsException if there is no such road", "Throws
     * IllegalArgumentException if second does not follow first, or setting is not -2 to 1000".
     */
    private static void setTurn() {
        for (int first : NUMBERS) {
            for (int second : NUMBERS) {
                for (int setting : SETTINGS) {
                    Class<? extends RuntimeException> due = turnFault(first, second);
                    if (due == null && (setting < -2 || setting > 1000)) {
                        due = ARGUMENT;
                    }
                    refusals.call(due, "setTurn", x -> x.setTurn(first, second, setting),
                            first, second, setting);
                }
            }
        }
    }

    private static Class<? extends RuntimeException> turnFault(int first, int second) {
        if (!state.hasRoad(first) || !state.hasRoad(second)) {
            return INDEX;
        }
        return state.follows(first, second) ? null : ARGUMENT;
    }

    /** Promise 7: "Throws IllegalArgumentException if penalty is not -1 to 1000". */
    private static void setUTurn() {
        for (int penalty : SETTINGS) {
            refusals.call(penalty < -1 || penalty > 1000 ? ARGUMENT : null, "setUTurn",
                    x -> x.setUTurn(penalty), penalty);
        }
    }

    /** Promises 10 and 11: "Throws IndexOutOfBoundsException if there is no such road". */
    private static void weightAndIsOpen() {
        for (int road : NUMBERS) {
            Class<? extends RuntimeException> due = state.hasRoad(road) ? null : INDEX;
            refusals.call(due, "weight", x -> x.weight(road), road);
            refusals.call(due, "isOpen", x -> x.isOpen(road), road);
        }
    }

    /**
     * Promise 12: "Throws IndexOutOfBoundsException if there is no such road", "Throws
     * IllegalArgumentException if second does not follow first".
     */
    private static void turnPenalty() {
        for (int first : NUMBERS) {
            for (int second : NUMBERS) {
                refusals.call(turnFault(first, second), "turnPenalty",
                        x -> x.turnPenalty(first, second), first, second);
            }
        }
    }

    /** Promise 13: "Throws IllegalStateException if there are no roads". */
    private static void prepare() {
        refusals.call(state.roads == 0 ? STATE : null, "prepare", x -> x.prepare());
    }

    /**
     * Promise 15: "Throws IllegalStateException if there is no hierarchy", "Throws
     * IndexOutOfBoundsException if there is no such road".
     */
    private static void position() {
        for (int road : NUMBERS) {
            refusals.call(preparedFault(state.hasRoad(road)), "position", x -> x.position(road), road);
        }
    }

    /** What is due if there must be a hierarchy before the numbers can be right. */
    private static Class<? extends RuntimeException> preparedFault(boolean numbersAreRight) {
        if (!state.prepared) {
            return STATE;
        }
        return numbersAreRight ? null : INDEX;
    }

    /**
     * Promise 17: "Throws IllegalStateException if there is no hierarchy", "Throws
     * IndexOutOfBoundsException if there is no such road".
     */
    private static void hasArc() {
        for (int first : NUMBERS) {
            for (int second : NUMBERS) {
                refusals.call(preparedFault(state.hasRoad(first) && state.hasRoad(second)), "hasArc",
                        x -> x.hasArc(first, second), first, second);
            }
        }
    }

    /**
     * Promise 18: "Throws IllegalStateException if there is no hierarchy", "Throws
     * IndexOutOfBoundsException if there is no such road", "Throws java.util.NoSuchElementException
     * if there is no arc from first to second".
     */
    private static void arcCost() {
        RoadOracle fresh = state.make();
        for (int first : NUMBERS) {
            for (int second : NUMBERS) {
                Class<? extends RuntimeException> due =
                        preparedFault(state.hasRoad(first) && state.hasRoad(second));
                if (due == null && !fresh.hasArc(first, second)) {
                    due = NONE;
                }
                refusals.call(due, "arcCost", x -> x.arcCost(first, second), first, second);
            }
        }
    }

    /**
     * Promise 19: "Throws IllegalStateException if there is no hierarchy", "Throws
     * IndexOutOfBoundsException if there is no such junction".
     */
    private static void distance() {
        for (int from : NUMBERS) {
            for (int to : NUMBERS) {
                refusals.call(preparedFault(state.hasJunction(from) && state.hasJunction(to)),
                        "distance", x -> x.distance(from, to), from, to);
            }
        }
    }

    /**
     * Promise 20: "Throws IllegalStateException if there is no hierarchy", "Throws
     * IndexOutOfBoundsException if there is no such road or junction".
     */
    private static void distanceBehind() {
        for (int road : NUMBERS) {
            for (int to : NUMBERS) {
                refusals.call(preparedFault(state.hasRoad(road) && state.hasJunction(to)),
                        "distanceBehind", x -> x.distanceBehind(road, to), road, to);
            }
        }
    }

    /**
     * Promise 21: "Throws IllegalStateException if there is no hierarchy", "Throws
     * IndexOutOfBoundsException if there is no such junction", "Throws
     * java.util.NoSuchElementException if there is no path".
     */
    private static void route() {
        for (int from : NUMBERS) {
            for (int to : NUMBERS) {
                refusals.call(pathFault(from, to, true), "route", x -> x.route(from, to), from, to);
            }
        }
    }

    private static Class<? extends RuntimeException> pathFault(int from, int to, boolean othersAreRight) {
        Class<? extends RuntimeException> due = preparedFault(
                state.hasJunction(from) && state.hasJunction(to) && othersAreRight);
        // In the small states junction 3 has no roads; in the full ones all junctions are joined.
        boolean isCutOff = state.junctions == 4 && (from == 3) != (to == 3);
        return due == null && isCutOff ? NONE : due;
    }

    /** Promise 22: "Throws IndexOutOfBoundsException if there is no such index (also if no path is kept)". */
    private static void routeRoad() {
        for (int index : NUMBERS) {
            refusals.call(index >= 0 && index < state.keptRoads ? null : INDEX, "routeRoad",
                    x -> x.routeRoad(index), index);
        }
    }

    /**
     * Promise 24: "Throws IllegalStateException if there is no hierarchy", "Throws
     * IndexOutOfBoundsException if there is no such junction", "Throws IllegalArgumentException if
     * budget is negative".
     */
    private static void reach() {
        for (int from : NUMBERS) {
            for (int budget : BUDGETS) {
                Class<? extends RuntimeException> due = preparedFault(state.hasJunction(from));
                if (due == null && budget < 0) {
                    due = ARGUMENT;
                }
                refusals.call(due, "reach", x -> x.reach(from, budget), from, budget);
            }
        }
    }

    /** Promise 25: "Throws IndexOutOfBoundsException if there is no such index (also if none are kept)". */
    private static void reached() {
        for (int index : NUMBERS) {
            refusals.call(index >= 0 && index < state.keptJunctions ? null : INDEX, "reached",
                    x -> x.reached(index), index);
        }
    }

    /**
     * Promise 26: "Throws IllegalStateException if there is no hierarchy", "Throws
     * IndexOutOfBoundsException if there is no such junction".
     */
    private static void averageDistance() {
        for (int from : NUMBERS) {
            refusals.call(preparedFault(state.hasJunction(from)), "averageDistance",
                    x -> x.averageDistance(from), from);
        }
    }

    /**
     * Promise 27: "Throws IllegalStateException if there is no hierarchy", "Throws
     * IndexOutOfBoundsException if there is no such junction or road", "Throws
     * java.util.NoSuchElementException if there is no path now".
     */
    private static void detour() {
        for (int from : NUMBERS) {
            for (int to : NUMBERS) {
                for (int road : NUMBERS) {
                    refusals.call(pathFault(from, to, state.hasRoad(road)), "detour",
                            x -> x.detour(from, to, road), from, to, road);
                }
            }
        }
    }

    /** Promise 28: "Throws IndexOutOfBoundsException if there is no such junction or kind". */
    private static void setPlace() {
        for (int junction : NUMBERS) {
            for (int kind : NUMBERS) {
                for (boolean isThere : TRUTHS) {
                    boolean isRight = state.hasJunction(junction) && kind >= 0 && kind <= 3;
                    refusals.call(isRight ? null : INDEX, "setPlace",
                            x -> x.setPlace(junction, kind, isThere), junction, kind, isThere);
                }
            }
        }
    }

    /**
     * Promise 29: "Throws IllegalStateException if there is no hierarchy", "Throws
     * IndexOutOfBoundsException if there is no such junction or kind", "Throws
     * java.util.NoSuchElementException if there is no path to such a junction".
     */
    private static void nearest() {
        for (int from : NUMBERS) {
            for (int kind : NUMBERS) {
                Class<? extends RuntimeException> due =
                        preparedFault(state.hasJunction(from) && kind >= 0 && kind <= 3);
                if (due == null && !hasPlaceInReach(from, kind)) {
                    due = NONE;
                }
                refusals.call(due, "nearest", x -> x.nearest(from, kind), from, kind);
            }
        }
    }

    /** A place of kind 3 is at junction 0, one of kind 0 at the last junction. */
    private static boolean hasPlaceInReach(int from, int kind) {
        if (kind == 3) {
            return pathFault(from, 0, true) == null;
        }
        return kind == 0 && pathFault(from, state.junctions - 1, true) == null;
    }

    /** Promise 30: "Throws IllegalStateException if there are 8 levels". */
    private static void push() {
        refusals.call(state.levels == 8 ? STATE : null, "push", x -> x.push());
    }

    /** Promise 31: "Throws IllegalStateException if there is no level". */
    private static void pop() {
        refusals.call(state.levels == 0 ? STATE : null, "pop", x -> x.pop());
    }
}
