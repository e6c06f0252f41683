/** Promises 30 to 32: levels and the checksum. */
public final class LevelsTest {
    private static final Class<IllegalStateException> STATE = IllegalStateException.class;
    private static final Check check = new Check();

    public static void main(String[] args) {
        eightLevels();
        popRestores();
        popKeepsWhatIsNewer();
        popCountsArcs();
        popKeepsTheHierarchy();
        digestOfParts();
        digestOfCalls();
        check.finish("LevelsTest");
    }

    private static void eightLevels() {
        RoadOracle x = Build.network(2, 0, 1, 9);
        check.fails("31: no level", STATE, () -> x.pop());
        for (int level = 1; level <= 8; level++) {
            x.setWeight(0, level);
            check.same("30: push()", x.push(), level);
        }
        x.setWeight(0, 100);
        long digest = x.digest();
        check.fails("30: the ninth level", STATE, () -> x.push());
        check.same("30: nothing has changed", x.digest(), digest);
        for (int level = 8; level >= 1; level--) {
            check.same("31: pop() without a hierarchy", x.pop(), 0);
            check.same("31: weight(0)", x.weight(0), level);
        }
        check.fails("31: no level", STATE, () -> x.pop());
        check.same("31: weight(0)", x.weight(0), 1);
        check.same("30: push() again", x.push(), 1);
        check.same("30: on an empty network", new RoadOracle().push(), 1);
    }

    private static void popRestores() {
        RoadOracle x = Build.prepared(3, 0, 1, 3, 1, 0, 4, 1, 2, 5);
        x.setTurn(0, 2, 7);
        x.setOpen(1, false);
        long digest = x.digest();
        x.push();
        x.setWeight(0, 30);
        x.setOpen(1, true);
        x.setOpen(2, false);
        x.setTurn(0, 2, -1);
        x.setTurn(0, 1, 8);
        x.setUTurn(-1);
        x.pop();
        check.same("31: weight(0)", x.weight(0), 3);
        check.same("31: isOpen(1)", x.isOpen(1), false);
        check.same("31: isOpen(2)", x.isOpen(2), true);
        check.same("31: turnPenalty(0, 2)", x.turnPenalty(0, 2), 7);
        check.same("31: turnPenalty(0, 1)", x.turnPenalty(0, 1), 100);
        check.same("31: turnPenalty(1, 0)", x.turnPenalty(1, 0), 100);
        check.same("31: digest()", x.digest(), digest);
        check.same("31: distance(0, 2)", x.distance(0, 2), 15);
        x.push();
        x.setWeight(2, 6);
        x.push();
        x.setWeight(2, 7);
        x.pop();
        check.same("31: the latest level", x.weight(2), 6);
        x.setWeight(2, 8);
        x.push();
        x.setWeight(2, 9);
        x.pop();
        check.same("31: a level used again", x.weight(2), 8);
        x.pop();
        check.same("31: the first level", x.weight(2), 5);
    }

    private static void popKeepsWhatIsNewer() {
        RoadOracle x = Build.network(3, 0, 1, 3);
        x.push();
        x.setWeight(0, 4);
        x.addRoad(1, 2, 5);
        x.setWeight(1, 6);
        x.setTurn(0, 1, 9);
        x.addRoad(1, 0, 7);
        x.setOpen(2, false);
        x.setUTurn(50);
        x.setTurn(2, 0, 11);
        x.addJunction();
        x.setPlace(3, 1, true);
        x.prepare();
        check.same("31: pop()", x.pop(), 0);
        check.same("31: weight(0)", x.weight(0), 3);
        check.same("31: weight(1), newer", x.weight(1), 6);
        check.same("31: weight(2), newer", x.weight(2), 7);
        check.same("31: isOpen(2), newer", x.isOpen(2), false);
        check.same("31: turnPenalty(0, 1), newer", x.turnPenalty(0, 1), 9);
        check.same("31: turnPenalty(2, 0), newer", x.turnPenalty(2, 0), 11);
        check.same("31: the U-turn penalty of a newer turn", x.turnPenalty(0, 2), 100);
        check.same("31: roadCount()", x.roadCount(), 3);
        check.same("31: junctionCount()", x.junctionCount(), 4);
        check.same("31: places stay", x.setPlace(3, 1, true), true);
        check.same("31: distance(0, 2)", x.distance(0, 2), 18);
        RoadOracle full = Build.full();
        full.push();
        full.setOpen(63, false);
        full.setOpen(0, false);
        full.setWeight(63, 1000);
        full.setTurn(63, 0, 5);
        full.pop();
        check.same("31: isOpen(63)", full.isOpen(63), true);
        check.same("31: isOpen(0)", full.isOpen(0), true);
        check.same("31: weight(63)", full.weight(63), 64);
        check.same("31: turnPenalty(63, 0)", full.turnPenalty(63, 0), 100);
    }

    private static void popCountsArcs() {
        RoadOracle x = Build.prepared(3, 0, 1, 5, 1, 2, 7, 2, 0, 9);
        x.push();
        check.same("31: nothing to restore", x.pop(), 0);
        x.push();
        x.setWeight(0, 6);
        check.same("31: a weight", x.pop(), 2);
        x.push();
        x.setOpen(0, false);
        check.same("31: a closed road", x.pop(), 3);
        x.push();
        x.setTurn(2, 0, 10);
        x.setWeight(0, 1);
        check.same("31: a turn and a weight", x.pop(), 2);
        x.push();
        x.setTurn(2, 0, 4);
        x.setWeight(0, 1);
        check.same("31: what cancels out", x.pop(), 0);
        x.push();
        x.setOpen(0, false);
        x.addRoad(0, 1, 5);
        check.same("31: the hierarchy is gone", x.pop(), 0);
        x.prepare();
        check.same("31: arcCost(0, 1)", x.arcCost(0, 1), 7);
        RoadOracle y = Build.prepared(2, 0, 1, 3, 1, 0, 3);
        y.push();
        y.setUTurn(-1);
        check.same("31: the U-turn penalty", y.pop(), 2);
    }

    private static void popKeepsTheHierarchy() {
        RoadOracle x = Build.network(3, 0, 1, 5, 1, 2, 7, 2, 0, 9);
        x.push();
        x.prepare();
        x.setWeight(0, 6);
        check.same("31: a hierarchy built since then", x.pop(), 2);
        check.same("31: isPrepared()", x.isPrepared(), true);
        check.same("31: arcCost(2, 1)", x.arcCost(2, 1), 12);
    }

    private static long fold(long... numbers) {
        long d = 23;
        for (long x : numbers) {
            d = d * 31 + x;
        }
        return d;
    }

    private static void digestOfParts() {
        RoadOracle x = new RoadOracle();
        check.same("32: a new object", x.digest(), fold(0, 0, 0, 0));
        x.addJunction();
        check.same("32: a junction", x.digest(), fold(1, 0, 0, 0));
        x.addJunction();
        x.addJunction();
        x.addRoad(0, 1, 5);
        x.push();
        check.same("32: a road and a level", x.digest(), fold(3, 1, 1, 0, 5, 1));
        x.addRoad(1, 2, 7);
        x.addRoad(2, 0, 9);
        x.setOpen(1, false);
        check.same("32: a closed road", x.digest(), fold(3, 3, 1, 0, 5, 1, 7, 0, 9, 1));
        x.prepare();
        check.same("32: a hierarchy", x.digest(),
                fold(3, 3, 1, 4, 5, 1, 0, 7, 0, 1, 9, 1, 2, -1, -1, 5, -1));
        x.setOpen(1, true);
        check.same("32: all roads open", x.digest(),
                fold(3, 3, 1, 4, 5, 1, 0, 7, 1, 1, 9, 1, 2, 7, 9, 5, 12));
        x.addRoad(0, 2, 10000);
        check.same("32: without the hierarchy", x.digest(),
                fold(3, 4, 1, 0, 5, 1, 7, 1, 9, 1, 10000, 1));
    }

    private static void digestOfCalls() {
        RoadOracle x = Build.prepared(3, 0, 1, 5, 1, 2, 7, 2, 0, 9);
        long digest = x.digest();
        x.distance(0, 2);
        x.distanceBehind(0, 0);
        x.route(0, 2);
        x.reach(0, 5);
        x.detour(0, 2, 0);
        x.averageDistance(0);
        x.setPlace(0, 0, true);
        x.nearest(0, 0);
        x.digest();
        check.same("32: queries and places do not matter", x.digest(), digest);
    }
}
