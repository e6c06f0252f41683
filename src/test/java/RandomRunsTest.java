import java.lang.reflect.InvocationTargetException;
import java.lang.reflect.Method;
import java.util.Arrays;

/** Runs of pseudo-random calls, the same in each session, on the oracle and on the naive one. */
public final class RandomRunsTest {
    /**
     * The methods with their arguments (j junction, r road, R a road that an arc leads to from the
     * argument before it, w weight, s setting, u U-turn penalty, k kind, b boolean, g budget,
     * i index) and how often they are called.
     */
    private static final String[] CALLS = {
        "addJunction 1", "addRoad jjw 1", "setWeight rw 12", "setOpen rb 12", "setTurn rRs 12",
        "setUTurn u 3", "junctionCount 1", "roadCount 1", "weight r 1", "isOpen r 1",
        "turnPenalty rR 3", "prepare 2", "isPrepared 1", "position r 2", "arcCount 1",
        "hasArc rR 2", "arcCost rR 5", "distance jj 6", "distanceBehind rj 6", "route jj 8",
        "routeRoad i 8", "routeCost 2", "reach jg 4", "reached i 6", "averageDistance j 3",
        "detour jjr 5", "setPlace jkb 4", "nearest jk 4", "push 3", "pop 3", "digest 2"
    };

    private static final Check check = new Check();
    private static long seed = 1;
    private static int maxWeight;

    public static void main(String[] args) {
        for (int run = 0; run < 500; run++) {
            playRun(run, 2 + pick(4), pick(14), run % 3 == 0 ? 10000 : 1 + run % 5, 200);
        }
        for (int run = 500; run < 620; run++) {
            playRun(run, 3 + pick(8), 10 + pick(25), run % 2 == 0 ? 3 : 10000, 150);
        }
        for (int run = 620; run < 632; run++) {
            playRun(run, run % 2 == 0 ? 32 : 2 + pick(10), 64, run % 3 == 0 ? 10000 : 4, 100);
        }
        check.finish("RandomRunsTest");
    }

    private static int pick(int bound) {
        seed = seed * 6364136223846793005L + 1442695040888963407L;
        return (int) ((seed >>> 33) % bound);
    }

    private static void playRun(int run, int junctions, int roads, int largest, int calls) {
        RoadOracle oracle = new RoadOracle();
        NaiveOracle naive = new NaiveOracle();
        maxWeight = largest;
        StringBuilder log = new StringBuilder("run " + run + ": ");
        for (int i = 0; i < junctions; i++) {
            play(oracle, naive, "addJunction", "", log);
        }
        for (int tries = 0; tries < 200 && naive.roadCount() < roads; tries++) {
            play(oracle, naive, "addRoad", "jjw", log);
        }
        play(oracle, naive, "prepare", "", log);
        for (int i = 0; i < calls; i++) {
            playAny(oracle, naive, log);
            if (i % 4 == 0) {
                play(oracle, naive, "digest", "", log);
            }
        }
    }

    private static void playAny(RoadOracle oracle, NaiveOracle naive, StringBuilder log) {
        if (!naive.isPrepared() && pick(4) == 0) {
            play(oracle, naive, "prepare", "", log);
            return;
        }
        int total = 0;
        for (String call : CALLS) {
            total += frequency(call);
        }
        int at = pick(total);
        for (String call : CALLS) {
            at -= frequency(call);
            if (at < 0) {
                String[] parts = call.split(" ");
                play(oracle, naive, parts[0], parts.length == 3 ? parts[1] : "", log);
                return;
            }
        }
    }

    private static int frequency(String call) {
        return Integer.parseInt(call.substring(call.lastIndexOf(' ') + 1));
    }

    private static void play(RoadOracle oracle, NaiveOracle naive, String name, String kinds,
            StringBuilder log) {
        Object[] args = new Object[kinds.length()];
        Class<?>[] types = new Class<?>[kinds.length()];
        for (int i = 0; i < args.length; i++) {
            boolean isBoolean = kinds.charAt(i) == 'b';
            types[i] = isBoolean ? boolean.class : int.class;
            int before = i > 0 && args[i - 1] instanceof Integer last ? last : 0;
            args[i] = isBoolean ? (Object) (pick(2) == 0) : (Object) argument(naive, kinds.charAt(i), before);
        }
        String got = answer(oracle, name, types, args);
        String due = answer(naive, name, types, args);
        String call = name + Arrays.toString(args);
        check.same("answers", 0, 0);
        if (!got.equals(due)) {
            check.complain(log + call + " answered " + got + ", due is " + due);
        }
        log.append(call).append(" = ").append(due).append("; ");
    }

    private static String answer(Object target, String name, Class<?>[] types, Object[] args) {
        try {
            Method method = target.getClass().getMethod(name, types);
            return String.valueOf(method.invoke(target, args));
        } catch (InvocationTargetException e) {
            return e.getCause().getClass().getName();
        } catch (ReflectiveOperationException e) {
            throw new AssertionError(e);
        }
    }

    private static int argument(NaiveOracle naive, char kind, int before) {
        if (pick(25) == 0) {
            int[] odd = {-1, Integer.MIN_VALUE, Integer.MAX_VALUE, -2, -3, 1001, 10001, 64, 32, 4, 0};
            return odd[pick(odd.length)];
        }
        switch (kind) {
            case 'j':
                return naive.junctionCount() == 0 ? 0 : pick(naive.junctionCount());
            case 'r':
                return naive.roadCount() == 0 ? 0 : pick(naive.roadCount());
            case 'R':
                return roadBehind(naive, before);
            case 'w':
                return pick(20) == 0 ? 10000 : 1 + pick(maxWeight);
            case 's':
                return pick(3) == 0 ? pick(3) - 2 : pick(5) == 0 ? 1000 : pick(Math.min(maxWeight, 1000));
            case 'u':
                return pick(3) == 0 ? -1 : pick(Math.min(maxWeight, 1000));
            case 'k':
                return pick(4);
            case 'g':
                return pick(4 * maxWeight);
            default:
                return pick(6);
        }
    }

    private static int roadBehind(NaiveOracle naive, int first) {
        int road = naive.roadCount() == 0 ? 0 : pick(naive.roadCount());
        if (!naive.isPrepared() || first < 0 || first >= naive.roadCount() || pick(6) == 0) {
            return road;
        }
        for (int i = 0; i < naive.roadCount(); i++) {
            int other = (road + i) % naive.roadCount();
            if (naive.hasArc(first, other)) {
                return other;
            }
        }
        return road;
    }
}
