import java.math.BigInteger;

/**
 * Promises 30 to 32 and what the Description says of levels, sentence by sentence: no level and eight
 * of them, levels of no road and of 64, what a level does not store, and the checksum's wrap-around.
 */
public final class EdgeLevelsTest extends Edge {
    public static void main(String[] args) {
        push();
        pop();
        changedArcs();
        digest();
        check.finish("EdgeLevelsTest");
    }

    // ---- Promise 30

    private static void push() {
        eightLevels();
        levelsOfAnEmptyObject();
    }

    /**
     * Description: "There are at most 8 levels." Promise 30: "Returns the number of levels
     * afterwards.", "Throws IllegalStateException if there are 8 levels", as often as it is called.
     */
    private static void eightLevels() {
        RoadOracle x = Build.network(2, 0, 1, 1);
        for (int round = 0; round < 3; round++) {
            for (int level = 1; level <= 8; level++) {
                x.setWeight(0, level);
                check.same("30: push()", x.push(), level);
            }
            x.setWeight(0, 100);
            check.fails("30: the ninth", STATE, x::push);
            check.fails("30: the ninth", STATE, x::push);
            check.same("31: pop()", x.pop(), 0);
            check.same("30: the eighth again", x.push(), 8);
            check.fails("30: the ninth", STATE, x::push);
            for (int level = 8; level >= 1; level--) {
                check.same("31: pop()", x.pop(), 0);
                check.same("10: weight(0)", x.weight(0), level);
            }
            check.fails("31: none is left", STATE, x::pop);
        }
    }

    /** Promises 30 and 31: levels of an object without junctions and roads. */
    private static void levelsOfAnEmptyObject() {
        RoadOracle x = new RoadOracle();
        for (int level = 1; level <= 8; level++) {
            check.same("30: push()", x.push(), level);
            check.same("32: digest()", x.digest(), fold(0, 0, level, 0));
        }
        check.fails("30: the ninth", STATE, x::push);
        for (int level = 7; level >= 0; level--) {
            check.same("31: pop()", x.pop(), 0);
            check.same("32: digest()", x.digest(), fold(0, 0, level, 0));
        }
        check.fails("31: none is left", STATE, x::pop);
    }

    // ---- Promise 31

    private static void pop() {
        popNeedsALevel();
        popRestoresTheLatestLevel();
        popRestoresSettings();
        popRestoresTheUTurnPenalty();
        newerRoadsKeepWhatTheyHave();
        turnsOfNewerRoadsKeepWhatTheyHave();
        levelsOf64Roads();
        popLeavesTheRest();
    }

    /** Promise 31: "Throws IllegalStateException if there is no level", before the first and behind the last. */
    private static void popNeedsALevel() {
        RoadOracle x = Build.network(2, 0, 1, 5);
        check.fails("31: before the first", STATE, x::pop);
        x.push();
        x.setWeight(0, 6);
        check.same("31: pop()", x.pop(), 0);
        check.fails("31: behind the last", STATE, x::pop);
        check.same("10: weight(0)", x.weight(0), 5);
        x.setWeight(0, 7);
        check.fails("31: behind the last", STATE, x::pop);
        check.same("10: weight(0)", x.weight(0), 7);
    }

    /** Description: "pop restores what the latest push that has not been undone by a pop has stored". */
    private static void popRestoresTheLatestLevel() {
        RoadOracle x = Build.network(2, 0, 1, 1);
        x.push();
        x.setWeight(0, 2);
        x.push();
        x.setWeight(0, 3);
        x.pop();
        check.same("31: the second push", x.weight(0), 2);
        x.setWeight(0, 4);
        x.push();
        x.setWeight(0, 5);
        x.pop();
        check.same("31: the third push", x.weight(0), 4);
        x.pop();
        check.same("31: the first push, as the second is undone", x.weight(0), 1);
    }

    /**
     * Description: "push stores .. the settings of all turns": also DEFAULT, which is not a penalty of
     * 100 but follows the U-turn penalty, and FORBIDDEN.
     */
    private static void popRestoresSettings() {
        int[] settings = {DEFAULT, FORBIDDEN, 0, 1000};
        for (int before : settings) {
            for (int afterwards : settings) {
                RoadOracle x = Build.network(2, 0, 1, 5, 1, 0, 5);
                x.setTurn(0, 1, before);
                x.push();
                x.setTurn(0, 1, afterwards);
                x.pop();
                check.same("12: restored", x.turnPenalty(0, 1), before == DEFAULT ? 100 : before);
                x.setUTurn(33);
                check.same("12: restored", x.turnPenalty(0, 1), before == DEFAULT ? 33 : before);
            }
        }
    }

    /** Description: "push stores .. the U-turn penalty", the one at first, the least and the greatest. */
    private static void popRestoresTheUTurnPenalty() {
        RoadOracle x = Build.network(2, 0, 1, 5, 1, 0, 5);
        int[] due = {100, FORBIDDEN, 0, 1000};
        for (int penalty : due) {
            x.setUTurn(penalty);
            x.push();
        }
        x.setUTurn(7);
        for (int i = due.length - 1; i >= 0; i--) {
            x.pop();
            check.same("12: turnPenalty(0, 1)", x.turnPenalty(0, 1), due[i]);
        }
    }

    /**
     * Description: "roads that were added since then .. keep what they have", for levels of 0 to 63
     * roads, of which the 64th is always newer.
     */
    private static void newerRoadsKeepWhatTheyHave() {
        for (int known = 0; known < 64; known++) {
            RoadOracle x = Build.network(2);
            for (int i = 0; i < 64; i++) {
                if (i == known) {
                    x.push();
                }
                x.addRoad(i % 2, 1 - i % 2, 5);
            }
            for (int i = 0; i < 64; i++) {
                x.setWeight(i, 6);
                x.setOpen(i, false);
            }
            x.setUTurn(7);
            x.pop();
            for (int i = 0; i < 64; i++) {
                check.same("10: weight(" + i + ")", x.weight(i), i < known ? 5 : 6);
                check.same("11: isOpen(" + i + ")", x.isOpen(i), i < known);
            }
            check.same("12: the U-turn penalty is of no road", x.turnPenalty(62, 63), 100);
            check.same("9: roadCount()", x.roadCount(), 64);
        }
    }

    /** Description: "and the turns from and to them, keep what they have"; those of older roads do not. */
    private static void turnsOfNewerRoadsKeepWhatTheyHave() {
        for (int known = 0; known <= 6; known++) {
            RoadOracle x = Build.network(2);
            for (int i = 0; i < 6; i++) {
                if (i == known) {
                    x.push();
                }
                x.addRoad(i % 2, 1 - i % 2, 5);
            }
            if (known == 6) {
                x.push();
            }
            for (int i = 0; i < 36; i++) {
                if (i / 6 % 2 != i % 6 % 2) {
                    x.setTurn(i / 6, i % 6, i);
                }
            }
            x.pop();
            for (int i = 0; i < 36; i++) {
                if (i / 6 % 2 != i % 6 % 2) {
                    boolean isOld = i / 6 < known && i % 6 < known;
                    check.same("12: turnPenalty", x.turnPenalty(i / 6, i % 6), isOld ? 100 : i);
                }
            }
        }
    }

    /** Description: "push stores the weight of each road, whether it is open", on 8 levels of 64 roads. */
    private static void levelsOf64Roads() {
        RoadOracle x = Build.network(2);
        for (int i = 0; i < 64; i++) {
            x.addRoad(i % 2, 1 - i % 2, 5);
        }
        for (int level = 0; level < 8; level++) {
            x.push();
            x.setWeight(63 - level, 100 + level);
            x.setWeight(level, 200 + level);
            x.setOpen(63 - level, false);
            x.setTurn(63, 2 * level, 300 + level);
        }
        for (int level = 7; level >= 0; level--) {
            check.same("10: behind the push", x.weight(63 - level), 100 + level);
            x.pop();
            check.same("10: at the push", x.weight(63 - level), 5);
            check.same("10: at the push", x.weight(level), 5);
            check.same("11: at the push", x.isOpen(63 - level), true);
            check.same("12: at the push", x.turnPenalty(63, 2 * level), 100);
            if (level > 0) {
                check.same("10: an older change", x.weight(64 - level), 99 + level);
                check.same("11: an older change", x.isOpen(64 - level), false);
                check.same("12: an older change", x.turnPenalty(63, 2 * level - 2), 299 + level);
            }
        }
    }

    /** Description: push stores four things; junctions, roads, places, what is kept, and the hierarchy stay. */
    private static void popLeavesTheRest() {
        RoadOracle x = Build.prepared(2, 0, 1, 5);
        x.push();
        x.addJunction();
        x.addRoad(1, 2, 6);
        x.prepare();
        x.route(0, 2);
        x.reach(0, 5);
        x.setPlace(2, 3, true);
        check.same("31: pop()", x.pop(), 0);
        check.same("8: junctionCount()", x.junctionCount(), 3);
        check.same("9: roadCount()", x.roadCount(), 2);
        check.same("14: isPrepared()", x.isPrepared(), true);
        check.same("23: routeCost()", x.routeCost(), 11);
        check.same("22: routeRoad(1)", x.routeRoad(1), 1);
        check.same("25: reached(1)", x.reached(1), 1);
        check.same("29: nearest(0, 3)", x.nearest(0, 3), 2);
    }

    // ---- the number of changed arcs

    private static void changedArcs() {
        noChangedArcs();
        allArcsChange();
        changesThatTheHierarchyHasNotSeen();
    }

    /** Description: arcs whose cost is the same as before are not counted; "0 if there is no hierarchy". */
    private static void noChangedArcs() {
        RoadOracle x = Build.prepared(2, 0, 1, 5, 1, 0, 6);
        x.push();
        check.same("31: nothing was changed", x.pop(), 0);
        x.push();
        x.setWeight(0, 6);
        x.setWeight(0, 5);
        check.same("31: changed back", x.pop(), 0);
        x.push();
        x.setWeight(0, 8);
        x.setTurn(1, 0, 97);
        check.same("31: other numbers, the same cost", x.pop(), 0);
        x.push();
        x.setOpen(1, false);
        x.setWeight(0, 8);
        x.setOpen(1, true);
        check.same("31: of two arcs one", x.pop(), 1);
        x.push();
        x.setOpen(1, false);
        x.addRoad(0, 1, 1);
        check.same("31: no hierarchy", x.pop(), 0);
        x.prepare();
        check.same("18: arcCost(0, 1)", x.arcCost(0, 1), 106);
    }

    /** Promise 31: "Returns the number of changed arcs.", at most all of them. */
    private static void allArcsChange() {
        RoadOracle x = Build.full();
        x.prepare();
        int all = 2 * 32 * 32 + 32 * 31;
        x.push();
        check.same("7: setUTurn(FORBIDDEN)", x.setUTurn(FORBIDDEN), all);
        check.same("31: they get their costs", x.pop(), all);
        x.setUTurn(FORBIDDEN);
        x.push();
        check.same("7: setUTurn(1000)", x.setUTurn(1000), all);
        check.same("31: they lose their costs", x.pop(), all);
    }

    /** Promise 31: a hierarchy that was built behind the push follows the pop too. */
    private static void changesThatTheHierarchyHasNotSeen() {
        RoadOracle x = Build.network(3, 0, 1, 5, 1, 2, 7, 2, 0, 9);
        x.push();
        x.setWeight(0, 6);
        x.setOpen(2, false);
        x.prepare();
        check.same("18: arcCost(1, 2)", x.arcCost(1, 2), -1);
        check.same("31: two of road 2, the shortcut", x.pop(), 3);
        check.same("18: arcCost(1, 2)", x.arcCost(1, 2), 9);
        check.same("18: arcCost(2, 0)", x.arcCost(2, 0), 5);
        check.same("18: arcCost(2, 1)", x.arcCost(2, 1), 12);
    }

    // ---- Promise 32

    private static void digest() {
        digestOfAnEmptyObject();
        digestWrapsAround();
        digestOfArcsWithoutACost();
        digestOfAFullObject();
    }

    /** Promise 32: "A number d starts with 23", and four numbers follow where there is nothing. */
    private static void digestOfAnEmptyObject() {
        check.same("32: digest()", new RoadOracle().digest(), 21240983L);
        check.same("32: digest()", Build.network(32).digest(), 21240983L + 32 * 29791L);
    }

    /**
     * Promise 32: "which wraps around as a 64-bit integer": with 3 roads the number is still exact, with
     * 4 it is beyond 64 bits for the first time, and then at any number of roads.
     */
    private static void digestWrapsAround() {
        RoadOracle x = Build.network(2);
        for (int roads = 0; roads <= 64; roads++) {
            BigInteger exact = exactDigest(roads);
            check.same("32: beyond 64 bits", exact.bitLength() >= 64, roads >= 4);
            check.same("32: with " + roads + " roads", x.digest(), exact.longValue());
            if (roads < 64) {
                x.addRoad(0, 1, 10000);
            }
        }
    }

    private static BigInteger exactDigest(int roads) {
        BigInteger d = BigInteger.valueOf(23);
        for (int number : new int[] {2, roads, 0, 0}) {
            d = d.multiply(BigInteger.valueOf(31)).add(BigInteger.valueOf(number));
        }
        for (int i = 0; i < 2 * roads; i++) {
            d = d.multiply(BigInteger.valueOf(31)).add(BigInteger.valueOf(i % 2 == 0 ? 10000 : 1));
        }
        return d;
    }

    /**
     * Promise 32: "1 if it is open, else 0, and, if there is a hierarchy, its position"; "for each arc ..
     * its cost, -1 if it has none".
     */
    private static void digestOfArcsWithoutACost() {
        RoadOracle x = Build.network(3, 0, 1, 1, 1, 2, 10000, 2, 0, 3);
        check.same("32: no hierarchy", x.digest(), fold(3, 3, 0, 0, 1, 1, 10000, 1, 3, 1));
        x.setOpen(1, false);
        check.same("32: a closed road", x.digest(), fold(3, 3, 0, 0, 1, 1, 10000, 0, 3, 1));
        x.prepare();
        // The arcs from 0 to 1, from 1 to 2, from 2 to 0, and from 2 over 0 to 1.
        check.same("32: a hierarchy", x.digest(),
                fold(3, 3, 0, 4, 1, 1, 0, 10000, 0, 1, 3, 1, 2, -1, -1, 1, -1));
        x.setOpen(1, true);
        x.setTurn(0, 1, 1000);
        check.same("32: all open", x.digest(),
                fold(3, 3, 0, 4, 1, 1, 0, 10000, 1, 1, 3, 1, 2, 11000, 3, 1, 11001));
        x.push();
        check.same("32: a level", x.digest(),
                fold(3, 3, 1, 4, 1, 1, 0, 10000, 1, 1, 3, 1, 2, 11000, 3, 1, 11001));
        x.addRoad(0, 1, 2);
        check.same("32: no hierarchy", x.digest(),
                fold(3, 4, 1, 0, 1, 1, 10000, 1, 3, 1, 2, 1));
    }

    /**
     * Promise 32: "the number of junctions, of roads, of levels and of arcs", at most 32, 64 and 8; arcs
     * "in ascending order of its first and then of its second road".
     */
    private static void digestOfAFullObject() {
        RoadOracle x = Build.full();
        for (int i = 2; i < 32; i++) {
            x.addJunction();
        }
        for (int i = 0; i < 8; i++) {
            x.push();
        }
        x.prepare();
        long d = fold(32, 64, 8, x.arcCount());
        for (int road = 0; road < 64; road++) {
            d = ((d * 31 + road + 1) * 31 + 1) * 31 + x.position(road);
        }
        for (int first = 0; first < 64; first++) {
            for (int second = 0; second < 64; second++) {
                // The shortcuts lead from an odd road over road 0, which weighs 1, to another.
                if (first % 2 != second % 2) {
                    d = d * 31 + 100 + second + 1;
                } else if (first % 2 == 1 && first != second) {
                    d = d * 31 + 100 + 1 + 100 + second + 1;
                }
            }
        }
        check.same("32: digest()", x.digest(), d);
    }
}
