/**
 * Promises 28 and 29, sentence by sentence: no place and all 128 places, the junction itself, ties,
 * places that no path leads to, and the first numbers that are refused.
 */
public final class EdgePlacesTest extends Edge {
    /** Numbers that are no kind. */
    private static final int[] NO_KINDS = {MIN, MIN + 1, -4, -2, -1, 4, 5, 8, 32, MAX - 1, MAX};

    public static void main(String[] args) {
        eachPlaceIsThereByItself();
        whetherThereWasOneBefore();
        placesAtJunctionsThatAreThere();
        placesNeedNoHierarchyAndNoLevel();
        theNearestPlace();
        ofSeveralTheSmallestNumber();
        noPathToAPlace();
        nearestOfNumbersThatAreThere();
        check.finish("EdgePlacesTest");
    }

    /** Promise 28: "Puts a place at a junction, or removes it.", one kind at one junction and no other. */
    private static void eachPlaceIsThereByItself() {
        for (int i = 0; i < 128; i++) {
            RoadOracle x = Build.network(32);
            check.same("28: put", x.setPlace(i / 4, i % 4, true), false);
            for (int k = 0; k < 128; k++) {
                check.same("28: is there", x.setPlace(k / 4, k % 4, true), k == i);
            }
            check.same("28: remove", x.setPlace(i / 4, i % 4, false), true);
            for (int k = 0; k < 128; k++) {
                check.same("28: is there", x.setPlace(k / 4, k % 4, false), k != i);
            }
        }
    }

    /** Promise 28: "Returns whether there was one before.", of all four ways to call it. */
    private static void whetherThereWasOneBefore() {
        RoadOracle x = Build.network(1);
        check.same("28: remove none", x.setPlace(0, 0, false), false);
        check.same("28: put the first", x.setPlace(0, 0, true), false);
        check.same("28: put it again", x.setPlace(0, 0, true), true);
        check.same("28: remove it", x.setPlace(0, 0, false), true);
        check.same("28: remove it again", x.setPlace(0, 0, false), false);
    }

    /**
     * Promise 28: "Throws IndexOutOfBoundsException if there is no such junction or kind": "the kind
     * of the place, 0 to 3", for 0 to 32 junctions.
     */
    private static void placesAtJunctionsThatAreThere() {
        RoadOracle x = new RoadOracle();
        check.fails("28: no junction", INDEX, () -> x.setPlace(0, 0, true));
        for (int i = 0; i < 32; i++) {
            int next = i + 1;
            x.addJunction();
            check.same("28: the last", x.setPlace(i, 3, true), false);
            check.fails("28: the one behind it", INDEX, () -> x.setPlace(next, 3, true));
        }
        for (int number : NO_JUNCTIONS) {
            check.fails("28: junction " + number, INDEX, () -> x.setPlace(number, 0, true));
        }
        for (int kind : NO_KINDS) {
            check.fails("28: put kind " + kind, INDEX, () -> x.setPlace(0, kind, true));
            check.fails("28: remove kind " + kind, INDEX, () -> x.setPlace(31, kind, false));
        }
        for (int i = 0; i < 32; i++) {
            check.same("28: kind 0", x.setPlace(i, 0, false), false);
            check.same("28: kind 3", x.setPlace(i, 3, false), true);
        }
    }

    /**
     * Description: "push stores the weight of each road, whether it is open, the settings of all turns,
     * and the U-turn penalty.", and so no places; and they are there without a road.
     */
    private static void placesNeedNoHierarchyAndNoLevel() {
        RoadOracle x = Build.network(2);
        x.setPlace(1, 2, true);
        x.push();
        x.setPlace(1, 2, false);
        x.setPlace(0, 2, true);
        x.pop();
        x.addRoad(0, 1, 5);
        x.prepare();
        check.same("29: nearest(0, 2)", x.nearest(0, 2), 0);
        check.fails("29: nearest(1, 2)", NONE, () -> x.nearest(1, 2));
    }

    /** Promise 29: "the junction with a place of this kind that has the least distance", by 1; 0 for itself. */
    private static void theNearestPlace() {
        RoadOracle x = Build.prepared(4, 0, 1, 6, 0, 2, 5, 0, 3, 7);
        for (int junction = 1; junction < 4; junction++) {
            x.setPlace(junction, 3, true);
            x.setPlace(junction, junction - 1, true);
        }
        check.same("29: of three", x.nearest(0, 3), 2);
        check.same("29: kind 0", x.nearest(0, 0), 1);
        check.same("29: kind 1", x.nearest(0, 1), 2);
        check.same("29: kind 2", x.nearest(0, 2), 3);
        x.setWeight(2, 4);
        check.same("29: of three", x.nearest(0, 3), 3);
        x.setPlace(3, 3, false);
        check.same("29: of two", x.nearest(0, 3), 2);
        x.setPlace(0, 3, true);
        check.same("29: the junction itself", x.nearest(0, 3), 0);
    }

    /** Promise 29: "of several, the one with the smallest number", of 31 places. */
    private static void ofSeveralTheSmallestNumber() {
        RoadOracle x = Build.network(32);
        for (int i = 31; i > 0; i--) {
            x.addRoad(0, i, 8);
        }
        x.prepare();
        for (int i = 31; i > 0; i--) {
            x.setPlace(i, 1, true);
            check.same("29: the latest", x.nearest(0, 1), i);
        }
        for (int i = 1; i < 31; i++) {
            x.setPlace(i, 1, false);
            check.same("29: the next", x.nearest(0, 1), i + 1);
        }
        x.setPlace(31, 1, false);
        check.fails("29: none is left", NONE, () -> x.nearest(0, 1));
    }

    /**
     * Promise 29: "Throws java.util.NoSuchElementException if there is no path to such a junction": no
     * place, or none of this kind, or none in reach.
     */
    private static void noPathToAPlace() {
        RoadOracle x = Build.prepared(3, 0, 1, 5);
        check.fails("29: no place", NONE, () -> x.nearest(0, 0));
        x.setPlace(2, 0, true);
        check.fails("29: no path to it", NONE, () -> x.nearest(0, 0));
        check.same("29: the empty path to it", x.nearest(2, 0), 2);
        x.setPlace(1, 1, true);
        check.fails("29: another kind", NONE, () -> x.nearest(0, 0));
        check.same("29: this kind", x.nearest(0, 1), 1);
        x.setOpen(0, false);
        check.fails("29: a closed road", NONE, () -> x.nearest(0, 1));
        check.same("29: the empty path", x.nearest(1, 1), 1);
        x.setPlace(0, 0, true);
        check.fails("29: against the direction", NONE, () -> x.nearest(1, 0));
    }

    /**
     * Promise 29: "Throws IllegalStateException if there is no hierarchy", first, then "Throws
     * IndexOutOfBoundsException if there is no such junction or kind", then that there is no path.
     */
    private static void nearestOfNumbersThatAreThere() {
        RoadOracle none = Build.network(2, 0, 1, 5);
        RoadOracle x = Build.prepared(2, 0, 1, 5);
        check.fails("29: no hierarchy", STATE, () -> none.nearest(0, 0));
        check.fails("29: the junction behind the last", INDEX, () -> x.nearest(2, 0));
        for (int number : NO_JUNCTIONS) {
            check.fails("29: from " + number, INDEX, () -> x.nearest(number, 0));
            check.fails("29: no hierarchy", STATE, () -> none.nearest(number, 0));
        }
        for (int kind : NO_KINDS) {
            check.fails("29: kind " + kind + ", no path", INDEX, () -> x.nearest(0, kind));
            check.fails("29: no hierarchy", STATE, () -> none.nearest(0, kind));
        }
        x.setPlace(1, 3, true);
        check.same("29: the last of both", x.nearest(1, 3), 1);
    }
}
