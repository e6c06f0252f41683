/** What the document says of the whole object: its 512 calls, its constants, and what repeats. */
public final class EdgeCallsTest extends Edge {
    public static void main(String[] args) {
        theConstants();
        the512thCall();
        fiveHundredRefusedCalls();
        fiveHundredLevels();
        check.finish("EdgeCallsTest");
    }

    /** "The constants": FORBIDDEN = -1, DEFAULT = -2. */
    private static void theConstants() {
        check.same("FORBIDDEN", RoadOracle.FORBIDDEN, -1);
        check.same("DEFAULT", RoadOracle.DEFAULT, -2);
    }

    /** "An object is used for at most 512 calls after it has been made": the last one answers still. */
    private static void the512thCall() {
        RoadOracle x = Build.full();
        x.prepare();
        int calls = 2 + 64 + 1;
        for (; calls < 509; calls++) {
            // Each setting of the U-turn penalty changes all arcs.
            check.same("7: call " + (calls + 1), x.setUTurn(calls), 2 * 32 * 32 + 32 * 31);
        }
        check.same("19: call 510", x.distance(0, 1), 1);
        check.same("20: call 511", x.distanceBehind(0, 0), 508 + 2);
        check.same("18: call 512", x.arcCost(63, 1), 2 * 508 + 1 + 2);
    }

    /** Description: "A method that throws an exception changes nothing.", however often it does. */
    private static void fiveHundredRefusedCalls() {
        RoadOracle x = Build.prepared(2, 0, 1, 5);
        long digest = x.digest();
        for (int i = 0; i < 500; i++) {
            int number = i;
            check.fails("3: addRoad", ARGUMENT, () -> x.addRoad(0, 1, -number));
        }
        check.same("32: digest()", x.digest(), digest);
        check.same("21: route(0, 1)", x.route(0, 1), 1);
    }

    /** Description: "There are at most 8 levels", but they can be opened and closed all the time. */
    private static void fiveHundredLevels() {
        RoadOracle x = Build.prepared(2, 0, 1, 5, 1, 0, 5);
        for (int i = 0; i < 120; i++) {
            check.same("30: push()", x.push(), 1);
            check.same("4: setWeight", x.setWeight(0, 6 + i), 1);
            check.same("31: pop()", x.pop(), 1);
            check.same("18: arcCost(1, 0)", x.arcCost(1, 0), 105);
        }
    }
}
