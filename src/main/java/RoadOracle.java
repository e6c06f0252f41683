import java.util.Arrays;
import java.util.NoSuchElementException;

/**
 * A routing oracle for a road network with turn penalties, built on a customizable contraction
 * hierarchy over the roads.
 *
 * <p>Two ways of holding things go through the whole file. A set of roads is a long in which bit r
 * stands for road r. A length is an int that holds a cost above and a number of roads below
 * (ROAD_BITS), so that a plain comparison finds the least cost and, of equal costs, the fewest
 * roads; NONE is the length of what does not exist, and lies above all others.
 */
public final class RoadOracle {
    public static final int FORBIDDEN = -1;
    public static final int DEFAULT = -2;

    private static final int MAX_JUNCTIONS = 32;
    private static final int MAX_ROADS = 64;
    private static final int MAX_WEIGHT = 10000;
    private static final int MAX_PENALTY = 1000;
    private static final int MAX_LEVELS = 8;
    private static final int KINDS = 4;
    private static final int FIRST_U_TURN = 100;
    private static final int PAIRS = MAX_ROADS * MAX_ROADS;

    // A best path passes a road at most once, so its number of roads stays below 128.
    private static final int ROAD_BITS = 7;
    // Above every length of a best path (703000 << 7), and the sum of two still fits an int.
    private static final int NONE = 1 << 29;

    private final Network network;
    private final Hierarchy hierarchy;
    private final Levels levels;
    private final boolean[] places;
    // What the latest search found, by road and by junction.
    private final int[] lengths;
    private final int[] junctionLengths;
    private final int[] pathRoads;
    private int pathLength;
    private int pathCost;
    private final int[] reachedJunctions;
    private final int[] reachedCosts;
    private int reachedCount;

    public RoadOracle() {
        network = new Network();
        hierarchy = new Hierarchy(network);
        levels = new Levels();
        places = new boolean[MAX_JUNCTIONS * KINDS];
        lengths = new int[MAX_ROADS];
        junctionLengths = new int[MAX_JUNCTIONS];
        pathRoads = new int[MAX_ROADS];
        reachedJunctions = new int[MAX_JUNCTIONS];
        reachedCosts = new int[MAX_JUNCTIONS];
    }

    // ---- network

    public int addJunction() throws IllegalStateException {
        if (network.junctions >= MAX_JUNCTIONS) {
            throw new IllegalStateException("no more junctions");
        }
        network.junctions++;
        return network.junctions - 1;
    }

    public int addRoad(int from, int to, int weight)
            throws IndexOutOfBoundsException, IllegalArgumentException, IllegalStateException {
        requireJunction(from);
        requireJunction(to);
        if (from == to) {
            throw new IllegalArgumentException("a road ends at another junction");
        }
        requireWeight(weight);
        if (network.roads >= MAX_ROADS) {
            throw new IllegalStateException("no more roads");
        }
        hierarchy.built = false;
        return network.append(from, to, weight);
    }

    public int setWeight(int road, int weight)
            throws IndexOutOfBoundsException, IllegalArgumentException {
        requireRoad(road);
        requireWeight(weight);
        network.weights[road] = weight;
        return hierarchy.renewRoad(road);
    }

    public int setOpen(int road, boolean isOpen) throws IndexOutOfBoundsException {
        requireRoad(road);
        network.openOrClose(road, isOpen);
        return hierarchy.renewRoad(road);
    }

    public int setTurn(int first, int second, int setting)
            throws IndexOutOfBoundsException, IllegalArgumentException {
        requireTurn(first, second);
        if (setting < DEFAULT || setting > MAX_PENALTY) {
            throw new IllegalArgumentException("a setting is -2 to 1000");
        }
        network.settings[pair(first, second)] = setting;
        return hierarchy.renewTurn(first, second);
    }

    public int setUTurn(int penalty) throws IllegalArgumentException {
        if (penalty < FORBIDDEN || penalty > MAX_PENALTY) {
            throw new IllegalArgumentException("a U-turn penalty is -1 to 1000");
        }
        network.uTurn = penalty;
        return hierarchy.renewAll();
    }

    public int junctionCount() {
        return network.junctions;
    }

    public int roadCount() {
        return network.roads;
    }

    public int weight(int road) throws IndexOutOfBoundsException {
        requireRoad(road);
        return network.weights[road];
    }

    public boolean isOpen(int road) throws IndexOutOfBoundsException {
        requireRoad(road);
        return has(network.openRoads, road);
    }

    public int turnPenalty(int first, int second)
            throws IndexOutOfBoundsException, IllegalArgumentException {
        requireTurn(first, second);
        return network.penaltyOf(first, second);
    }

    // ---- hierarchy

    public int prepare() throws IllegalStateException {
        if (network.roads == 0) {
            throw new IllegalStateException("there are no roads");
        }
        if (!hierarchy.built) {
            hierarchy.build();
        }
        return hierarchy.shortcuts;
    }

    public boolean isPrepared() {
        return hierarchy.built;
    }

    public int position(int road) throws IllegalStateException, IndexOutOfBoundsException {
        requireHierarchy();
        requireRoad(road);
        return hierarchy.positions[road];
    }

    public int arcCount() {
        return hierarchy.built ? hierarchy.arcs : 0;
    }

    public boolean hasArc(int first, int second)
            throws IllegalStateException, IndexOutOfBoundsException {
        requireHierarchy();
        requireRoad(first);
        requireRoad(second);
        return has(hierarchy.heads[first], second);
    }

    public int arcCost(int first, int second)
            throws IllegalStateException, IndexOutOfBoundsException, NoSuchElementException {
        requireHierarchy();
        requireRoad(first);
        requireRoad(second);
        if (!has(hierarchy.heads[first], second)) {
            throw new NoSuchElementException("there is no such arc");
        }
        return costOf(hierarchy.lengths[pair(first, second)]);
    }

    // ---- distances and paths

    public int distance(int from, int to) throws IllegalStateException, IndexOutOfBoundsException {
        requireHierarchy();
        requireJunction(from);
        requireJunction(to);
        return costBetween(from, to);
    }

    public int distanceBehind(int road, int to)
            throws IllegalStateException, IndexOutOfBoundsException {
        requireHierarchy();
        requireRoad(road);
        requireJunction(to);
        Arrays.fill(lengths, NONE);
        if (has(network.openRoads, road)) {
            lengths[road] = 0;
        }
        spreadToJunctions();
        return foundCost(to);
    }

    public int route(int from, int to)
            throws IllegalStateException, IndexOutOfBoundsException, NoSuchElementException {
        requireHierarchy();
        requireJunction(from);
        requireJunction(to);
        if (from == to) {
            pathLength = 0;
            pathCost = 0;
            return 0;
        }
        searchTo(to);
        int first = bestFirstRoad(from);
        if (first < 0) {
            throw new NoSuchElementException("there is no path");
        }
        pathCost = costOf(network.roadLength(first) + lengths[first]);
        pathLength = writePath(first);
        return pathLength;
    }

    public int routeRoad(int index) throws IndexOutOfBoundsException {
        if (index < 0 || index >= pathLength) {
            throw new IndexOutOfBoundsException("no such index in the path");
        }
        return pathRoads[index];
    }

    public int routeCost() {
        return pathCost;
    }

    public int reach(int from, int budget)
            throws IllegalStateException, IndexOutOfBoundsException, IllegalArgumentException {
        requireHierarchy();
        requireJunction(from);
        if (budget < 0) {
            throw new IllegalArgumentException("a budget is not negative");
        }
        searchFrom(from);
        reachedCount = 0;
        for (int junction = 0; junction < network.junctions; junction++) {
            int cost = foundCost(junction);
            if (cost >= 0 && cost <= budget) {
                keepReached(junction, cost);
            }
        }
        return reachedCount;
    }

    public int reached(int index) throws IndexOutOfBoundsException {
        if (index < 0 || index >= reachedCount) {
            throw new IndexOutOfBoundsException("no such index among the junctions");
        }
        return reachedJunctions[index];
    }

    public double averageDistance(int from)
            throws IllegalStateException, IndexOutOfBoundsException {
        requireHierarchy();
        requireJunction(from);
        searchFrom(from);
        int sum = 0;
        int count = 0;
        for (int junction = 0; junction < network.junctions; junction++) {
            int cost = foundCost(junction);
            if (junction != from && cost >= 0) {
                sum += cost;
                count++;
            }
        }
        return count == 0 ? 0.0 : (double) sum / (double) count;
    }

    public int detour(int from, int to, int road)
            throws IllegalStateException, IndexOutOfBoundsException, NoSuchElementException {
        requireHierarchy();
        requireJunction(from);
        requireJunction(to);
        requireRoad(road);
        int now = costBetween(from, to);
        if (now < 0) {
            throw new NoSuchElementException("there is no path");
        }
        if (!has(network.openRoads, road)) {
            return 0;
        }
        network.openOrClose(road, false);
        hierarchy.renewRoad(road);
        int then = costBetween(from, to);
        network.openOrClose(road, true);
        hierarchy.renewRoad(road);
        return then < 0 ? -1 : then - now;
    }

    // ---- places

    public boolean setPlace(int junction, int kind, boolean isThere)
            throws IndexOutOfBoundsException {
        requireJunction(junction);
        requireKind(kind);
        boolean wasThere = places[place(junction, kind)];
        places[place(junction, kind)] = isThere;
        return wasThere;
    }

    public int nearest(int from, int kind)
            throws IllegalStateException, IndexOutOfBoundsException, NoSuchElementException {
        requireHierarchy();
        requireJunction(from);
        requireKind(kind);
        searchFrom(from);
        int nearestJunction = -1;
        int leastCost = NONE;
        for (int junction = 0; junction < network.junctions; junction++) {
            int cost = foundCost(junction);
            if (places[place(junction, kind)] && cost >= 0 && cost < leastCost) {
                nearestJunction = junction;
                leastCost = cost;
            }
        }
        if (nearestJunction < 0) {
            throw new NoSuchElementException("there is no path to such a place");
        }
        return nearestJunction;
    }

    // ---- levels

    public int push() throws IllegalStateException {
        if (levels.count >= MAX_LEVELS) {
            throw new IllegalStateException("no more levels");
        }
        levels.store(network);
        return levels.count;
    }

    public int pop() throws IllegalStateException {
        if (levels.count <= 0) {
            throw new IllegalStateException("there is no level");
        }
        levels.restore(network);
        return hierarchy.renewAll();
    }

    public long digest() {
        long d = 23;
        d = d * 31 + network.junctions;
        d = d * 31 + network.roads;
        d = d * 31 + levels.count;
        d = d * 31 + (hierarchy.built ? hierarchy.arcs : 0);
        for (int road = 0; road < network.roads; road++) {
            d = d * 31 + network.weights[road];
            d = d * 31 + (has(network.openRoads, road) ? 1 : 0);
            if (hierarchy.built) {
                d = d * 31 + hierarchy.positions[road];
            }
        }
        return hierarchy.built ? hierarchy.addArcs(d) : d;
    }

    // ---- what the arguments are tested for

    private void requireJunction(int junction) {
        if (junction < 0 || junction >= network.junctions) {
            throw new IndexOutOfBoundsException("no such junction");
        }
    }

    private void requireRoad(int road) {
        if (road < 0 || road >= network.roads) {
            throw new IndexOutOfBoundsException("no such road");
        }
    }

    private void requireTurn(int first, int second) {
        requireRoad(first);
        requireRoad(second);
        if (network.end[first] != network.begin[second]) {
            throw new IllegalArgumentException("the second road does not follow the first");
        }
    }

    private void requireKind(int kind) {
        if (kind < 0 || kind >= KINDS) {
            throw new IndexOutOfBoundsException("no such kind");
        }
    }

    private void requireWeight(int weight) {
        if (weight < 1 || weight > MAX_WEIGHT) {
            throw new IllegalArgumentException("a weight is 1 to 10000");
        }
    }

    private void requireHierarchy() {
        if (!hierarchy.built) {
            throw new IllegalStateException("there is no hierarchy");
        }
    }

    // ---- searches

    /** Finds the lengths of the best paths from the junction, by the last road and by the goal. */
    private void searchFrom(int junction) {
        Arrays.fill(lengths, NONE);
        long starts = network.beginning[junction] & network.openRoads;
        for (int road = 0; road < network.roads; road++) {
            if (has(starts, road)) {
                lengths[road] = network.roadLength(road);
            }
        }
        spreadToJunctions();
        junctionLengths[junction] = 0;
    }

    private void spreadToJunctions() {
        hierarchy.spreadForward(lengths);
        Arrays.fill(junctionLengths, NONE);
        for (int road = 0; road < network.roads; road++) {
            int goal = network.end[road];
            junctionLengths[goal] = Math.min(junctionLengths[goal], lengths[road]);
        }
    }

    /** Finds the length of the best way to the junction from behind each road. */
    private void searchTo(int junction) {
        Arrays.fill(lengths, NONE);
        long goals = network.ending[junction] & network.openRoads;
        for (int road = 0; road < network.roads; road++) {
            if (has(goals, road)) {
                lengths[road] = 0;
            }
        }
        hierarchy.spreadBackward(lengths);
    }

    /** The cost that the latest search has found for a junction; -1 if there is no path. */
    private int foundCost(int junction) {
        return costOf(junctionLengths[junction]);
    }

    private int costBetween(int from, int to) {
        searchFrom(from);
        return foundCost(to);
    }

    /** The road that the best path begins with, after searchTo; -1 if there is no path. */
    private int bestFirstRoad(int from) {
        long starts = network.beginning[from] & network.openRoads;
        int first = -1;
        int least = NONE;
        for (int road = 0; road < network.roads; road++) {
            int length = network.roadLength(road) + lengths[road];
            if (has(starts, road) && length < least) {
                first = road;
                least = length;
            }
        }
        return first;
    }

    /** Writes the best path down, after searchTo, and returns the number of its roads. */
    private int writePath(int first) {
        int count = 0;
        int road = first;
        while (road >= 0 && count < MAX_ROADS) {
            pathRoads[count] = road;
            count++;
            road = bestNextRoad(road);
        }
        return count;
    }

    /** The next road of the best path; -1 at the goal, as every step has a length above 0. */
    private int bestNextRoad(int road) {
        long followers = network.followersOf(road);
        for (int then = 0; then < network.roads; then++) {
            if (has(followers, then)
                    && network.stepLength(road, then) + lengths[then] == lengths[road]) {
                return then;
            }
        }
        return -1;
    }

    /** Puts a junction behind all kept ones that are not farther away. */
    private void keepReached(int junction, int cost) {
        if (reachedCount >= MAX_JUNCTIONS) {
            return;
        }
        int index = reachedCount;
        while (index > 0 && reachedCosts[index - 1] > cost) {
            reachedJunctions[index] = reachedJunctions[index - 1];
            reachedCosts[index] = reachedCosts[index - 1];
            index--;
        }
        reachedJunctions[index] = junction;
        reachedCosts[index] = cost;
        reachedCount++;
    }

    // ---- small things that all classes here use

    private static int costOf(int length) {
        return length >= NONE ? -1 : length >> ROAD_BITS;
    }

    private static int pair(int first, int second) {
        return first * MAX_ROADS + second;
    }

    private static int place(int junction, int kind) {
        return junction * KINDS + kind;
    }

    private static long only(int road) {
        return 1L << road;
    }

    private static boolean has(long roads, int road) {
        return (roads >> road & 1L) != 0;
    }

    /** The junctions, the roads and the turns as they are now. */
    private static final class Network {
        int junctions;
        int roads;
        final int[] begin;
        final int[] end;
        final int[] weights;
        final int[] settings;
        final long[] beginning;
        final long[] ending;
        long openRoads;
        int uTurn;

        Network() {
            begin = new int[MAX_ROADS];
            end = new int[MAX_ROADS];
            weights = new int[MAX_ROADS];
            settings = new int[PAIRS];
            Arrays.fill(settings, DEFAULT);
            beginning = new long[MAX_JUNCTIONS];
            ending = new long[MAX_JUNCTIONS];
            uTurn = FIRST_U_TURN;
        }

        int append(int from, int to, int newWeight) {
            int road = roads;
            begin[road] = from;
            end[road] = to;
            weights[road] = newWeight;
            beginning[from] |= only(road);
            ending[to] |= only(road);
            openRoads |= only(road);
            roads++;
            return road;
        }

        void openOrClose(int road, boolean isOpen) {
            long others = openRoads & ~only(road);
            openRoads = isOpen ? others | only(road) : others;
        }

        long allRoads() {
            return roads >= MAX_ROADS ? -1L : only(roads) - 1;
        }

        long followersOf(int road) {
            return beginning[end[road]];
        }

        long forerunnersOf(int road) {
            return ending[begin[road]];
        }

        int penaltyOf(int first, int second) {
            int setting = settings[pair(first, second)];
            if (setting != DEFAULT) {
                return setting;
            }
            return end[second] == begin[first] ? uTurn : 0;
        }

        int roadLength(int road) {
            return (weights[road] << ROAD_BITS) + 1;
        }

        /** The length of the turn with the second road; NONE if a closure or the turn bars it. */
        int stepLength(int first, int second) {
            int penalty = penaltyOf(first, second);
            if (penalty == FORBIDDEN || !has(openRoads, first) || !has(openRoads, second)) {
                return NONE;
            }
            return (penalty << ROAD_BITS) + roadLength(second);
        }
    }

    /** The order of the roads, and the arcs with their lengths. */
    private static final class Hierarchy {
        final Network network;
        boolean built;
        int roads;
        int arcs;
        int shortcuts;
        final int[] positions;
        final int[] order;
        // The roads that arcs lead to from each road, and those that arcs lead from to it.
        final long[] heads;
        final long[] tails;
        // The length of each arc, and what it would be without any road between its two roads.
        final int[] lengths;
        final int[] steps;
        // The arcs to compute anew, each at its lower road: by their heads, and by their tails.
        final long[] staleHeads;
        final long[] staleTails;

        Hierarchy(Network itsNetwork) {
            network = itsNetwork;
            positions = new int[MAX_ROADS];
            order = new int[MAX_ROADS];
            heads = new long[MAX_ROADS];
            tails = new long[MAX_ROADS];
            lengths = new int[PAIRS];
            steps = new int[PAIRS];
            staleHeads = new long[MAX_ROADS];
            staleTails = new long[MAX_ROADS];
        }

        void build() {
            roads = network.roads;
            int turns = linkTurns();
            long left = network.allRoads();
            for (int taken = 0; taken < roads; taken++) {
                int road = cheapest(left);
                positions[road] = taken;
                order[taken] = road;
                left &= ~only(road);
                bridge(tails[road] & left, heads[road] & left);
            }
            arcs = 0;
            for (int road = 0; road < roads; road++) {
                arcs += Long.bitCount(heads[road]);
            }
            shortcuts = arcs - turns;
            // Without any step no arc has a length; from there on all steps are changes.
            Arrays.fill(lengths, NONE);
            Arrays.fill(steps, NONE);
            renewSteps(network.allRoads(), network.allRoads());
            settle();
            built = true;
        }

        private int linkTurns() {
            int turns = 0;
            for (int road = 0; road < roads; road++) {
                heads[road] = network.followersOf(road);
                tails[road] = network.forerunnersOf(road);
                turns += Long.bitCount(heads[road]);
            }
            return turns;
        }

        /** The road to take next, of those that are left, among which there is one at least. */
        private int cheapest(long left) {
            int best = 0;
            int least = NONE;
            for (int road = 0; road < roads; road++) {
                if (has(left, road)) {
                    int into = Long.bitCount(tails[road] & left);
                    int outOf = Long.bitCount(heads[road] & left);
                    if (into * outOf < least) {
                        best = road;
                        least = into * outOf;
                    }
                }
            }
            return best;
        }

        private void bridge(long firsts, long seconds) {
            for (int road = 0; road < roads; road++) {
                if (has(firsts, road)) {
                    heads[road] |= seconds & ~only(road);
                }
                if (has(seconds, road)) {
                    tails[road] |= firsts & ~only(road);
                }
            }
        }

        /** Follows a change of a road's weight or closure; returns the number of changed arcs. */
        int renewRoad(int road) {
            if (!built) {
                return 0;
            }
            renewSteps(network.forerunnersOf(road), only(road));
            renewSteps(only(road), network.followersOf(road));
            return settle();
        }

        /** Follows a change of a turn; returns the number of changed arcs. */
        int renewTurn(int first, int second) {
            if (!built) {
                return 0;
            }
            renewSteps(only(first), only(second));
            return settle();
        }

        /** Follows changes of any kind; returns the number of changed arcs. */
        int renewAll() {
            if (!built) {
                return 0;
            }
            renewSteps(network.allRoads(), network.allRoads());
            return settle();
        }

        private void renewSteps(long firsts, long seconds) {
            for (int first = 0; first < roads; first++) {
                if (has(firsts, first)) {
                    renewStepsFrom(first, network.followersOf(first) & seconds);
                }
            }
        }

        private void renewStepsFrom(int first, long seconds) {
            for (int second = 0; second < roads; second++) {
                if (has(seconds, second)) {
                    int length = network.stepLength(first, second);
                    if (length != steps[pair(first, second)]) {
                        steps[pair(first, second)] = length;
                        markArc(first, second);
                    }
                }
            }
        }

        /** Marks an arc as stale, at its lower road. */
        private void markArc(int tail, int head) {
            if (positions[tail] < positions[head]) {
                staleHeads[tail] |= only(head);
            } else {
                staleTails[head] |= only(tail);
            }
        }

        /**
         * Computes the stale arcs anew, and those that turn stale by it; returns how many costs
         * have changed. An arc rests on arcs whose lower roads lie below both of its roads, so in
         * the order of the positions each arc is computed once, with all that it rests on final.
         */
        private int settle() {
            int changed = 0;
            for (int low = 0; low < roads; low++) {
                int road = order[low];
                if (staleHeads[road] == 0 && staleTails[road] == 0) {
                    continue;
                }
                for (int high = low + 1; high < roads; high++) {
                    int other = order[high];
                    if (has(staleHeads[road], other)) {
                        changed += settleArc(road, other);
                    }
                    if (has(staleTails[road], other)) {
                        changed += settleArc(other, road);
                    }
                }
                staleHeads[road] = 0;
                staleTails[road] = 0;
            }
            return changed;
        }

        /** Computes one arc anew; returns 1 if its cost has changed, else 0. */
        private int settleArc(int tail, int head) {
            int old = lengths[pair(tail, head)];
            int fresh = computeArc(tail, head);
            // Also a new number of roads alone concerns the arcs above.
            if (fresh != old) {
                lengths[pair(tail, head)] = fresh;
                markAbove(tail, head);
            }
            return costOf(fresh) == costOf(old) ? 0 : 1;
        }

        private int computeArc(int first, int second) {
            int least = steps[pair(first, second)];
            long between = heads[first] & tails[second];
            int stop = Math.min(positions[first], positions[second]);
            for (int position = 0; position < stop; position++) {
                int road = order[position];
                if (has(between, road)) {
                    int over = lengths[pair(first, road)] + lengths[pair(road, second)];
                    least = Math.min(least, over);
                }
            }
            return least;
        }

        /** Marks the arcs that go over the lower road of an arc, and by this arc, as stale. */
        private void markAbove(int tail, int head) {
            if (positions[tail] < positions[head]) {
                for (int position = positions[tail] + 1; position < roads; position++) {
                    int other = order[position];
                    if (other != head && has(tails[tail], other)) {
                        markArc(other, head);
                    }
                }
            } else {
                for (int position = positions[head] + 1; position < roads; position++) {
                    int other = order[position];
                    if (other != tail && has(heads[head], other)) {
                        markArc(tail, other);
                    }
                }
            }
        }

        /**
         * Spreads lengths along the arcs, upwards in the order and then downwards: a best path
         * climbs to its highest road and descends from there.
         */
        void spreadForward(int[] row) {
            for (int position = 0; position < roads; position++) {
                passOn(row, order[position], position + 1, roads);
            }
            for (int position = roads - 1; position >= 0; position--) {
                passOn(row, order[position], 0, position);
            }
        }

        /** Passes a road's length on along its arcs to roads with positions from start to stop - 1. */
        private void passOn(int[] row, int road, int start, int stop) {
            if (row[road] >= NONE) {
                return;
            }
            for (int position = start; position < stop; position++) {
                int head = order[position];
                if (has(heads[road], head)) {
                    row[head] = Math.min(row[head], row[road] + lengths[pair(road, head)]);
                }
            }
        }

        /** Spreads lengths against the direction of the arcs. */
        void spreadBackward(int[] row) {
            for (int position = 0; position < roads; position++) {
                passBack(row, order[position], position + 1, roads);
            }
            for (int position = roads - 1; position >= 0; position--) {
                passBack(row, order[position], 0, position);
            }
        }

        private void passBack(int[] row, int road, int start, int stop) {
            if (row[road] >= NONE) {
                return;
            }
            for (int position = start; position < stop; position++) {
                int tail = order[position];
                if (has(tails[road], tail)) {
                    row[tail] = Math.min(row[tail], lengths[pair(tail, road)] + row[road]);
                }
            }
        }

        /** Carries the checksum on over the costs of all arcs. */
        long addArcs(long start) {
            long d = start;
            for (int first = 0; first < roads; first++) {
                for (int second = 0; second < roads; second++) {
                    if (has(heads[first], second)) {
                        d = d * 31 + costOf(lengths[pair(first, second)]);
                    }
                }
            }
            return d;
        }
    }

    /** What the open levels have stored; level i has its part of each row. */
    private static final class Levels {
        int count;
        final int[] roads;
        final int[] weights;
        final int[] settings;
        final long[] openRoads;
        final int[] uTurns;

        Levels() {
            roads = new int[MAX_LEVELS];
            weights = new int[MAX_LEVELS * MAX_ROADS];
            settings = new int[MAX_LEVELS * PAIRS];
            openRoads = new long[MAX_LEVELS];
            uTurns = new int[MAX_LEVELS];
        }

        /** Opens a level; there are fewer than MAX_LEVELS. */
        void store(Network network) {
            int level = count;
            roads[level] = network.roads;
            System.arraycopy(network.weights, 0, weights, level * MAX_ROADS, network.roads);
            System.arraycopy(network.settings, 0, settings, level * PAIRS, PAIRS);
            openRoads[level] = network.openRoads;
            uTurns[level] = network.uTurn;
            count++;
        }

        /** Closes the latest level; there is one. Roads that are newer than it stay as they are. */
        void restore(Network network) {
            int level = count - 1;
            int known = roads[level];
            System.arraycopy(weights, level * MAX_ROADS, network.weights, 0, known);
            for (int first = 0; first < known; first++) {
                System.arraycopy(settings, level * PAIRS + pair(first, 0),
                        network.settings, pair(first, 0), known);
            }
            long newer = known >= MAX_ROADS ? 0L : -1L << known;
            network.openRoads = network.openRoads & newer | openRoads[level] & ~newer;
            network.uTurn = uTurns[level];
            count--;
        }
    }
}
