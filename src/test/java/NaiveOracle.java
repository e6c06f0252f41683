import java.util.ArrayList;
import java.util.Arrays;
import java.util.List;
import java.util.NoSuchElementException;

/**
 * The document once more, in the slowest and most literal way: everything is computed from the
 * roads and the turns, and the hierarchy serves no query. The random runs compare the two.
 */
public final class NaiveOracle {
    private static final int NO = -1;

    /** A path: its cost and its roads. */
    private static final class Path {
        final int cost;
        final List<Integer> roads;

        Path(int cost, List<Integer> roads) {
            this.cost = cost;
            this.roads = roads;
        }

        boolean isBetterThan(Path other) {
            if (other == null) {
                return true;
            }
            if (cost != other.cost) {
                return cost < other.cost;
            }
            if (roads.size() != other.roads.size()) {
                return roads.size() < other.roads.size();
            }
            for (int i = 0; i < roads.size(); i++) {
                if (!roads.get(i).equals(other.roads.get(i))) {
                    return roads.get(i) < other.roads.get(i);
                }
            }
            return false;
        }
    }

    /** What a level stores. */
    private record Stored(int[] weights, boolean[] open, int[][] settings, int uTurn) {
    }

    private int junctions = 0;
    private int[] begin = new int[0];
    private int[] end = new int[0];
    private int[] weights = new int[0];
    private boolean[] open = new boolean[0];
    private int[][] settings = new int[0][0];
    private int uTurn = 100;
    private final boolean[][] places = new boolean[32][4];
    private final List<Stored> levels = new ArrayList<>();
    private int[] positions = null;
    private boolean[][] arcs = null;
    private int[][] costs = null;
    private int shortcuts = 0;
    private Path kept = null;
    private List<Integer> reached = new ArrayList<>();

    public int addJunction() {
        if (junctions == 32) {
            throw new IllegalStateException();
        }
        return junctions++;
    }

    public int addRoad(int from, int to, int weight) {
        junction(from);
        junction(to);
        if (from == to || weight < 1 || weight > 10000) {
            throw new IllegalArgumentException();
        }
        int n = begin.length;
        if (n == 64) {
            throw new IllegalStateException();
        }
        begin = Arrays.copyOf(begin, n + 1);
        end = Arrays.copyOf(end, n + 1);
        weights = Arrays.copyOf(weights, n + 1);
        open = Arrays.copyOf(open, n + 1);
        begin[n] = from;
        end[n] = to;
        weights[n] = weight;
        open[n] = true;
        int[][] larger = new int[n + 1][n + 1];
        for (int a = 0; a <= n; a++) {
            for (int b = 0; b <= n; b++) {
                larger[a][b] = a < n && b < n ? settings[a][b] : -2;
            }
        }
        settings = larger;
        positions = null;
        arcs = null;
        costs = null;
        return n;
    }

    public int setWeight(int road, int weight) {
        road(road);
        if (weight < 1 || weight > 10000) {
            throw new IllegalArgumentException();
        }
        weights[road] = weight;
        return changes();
    }

    public int setOpen(int road, boolean isOpen) {
        road(road);
        open[road] = isOpen;
        return changes();
    }

    public int setTurn(int first, int second, int setting) {
        turn(first, second);
        if (setting < -2 || setting > 1000) {
            throw new IllegalArgumentException();
        }
        settings[first][second] = setting;
        return changes();
    }

    public int setUTurn(int penalty) {
        if (penalty < -1 || penalty > 1000) {
            throw new IllegalArgumentException();
        }
        uTurn = penalty;
        return changes();
    }

    public int junctionCount() {
        return junctions;
    }

    public int roadCount() {
        return begin.length;
    }

    public int weight(int road) {
        road(road);
        return weights[road];
    }

    public boolean isOpen(int road) {
        road(road);
        return open[road];
    }

    public int turnPenalty(int first, int second) {
        turn(first, second);
        if (settings[first][second] != -2) {
            return settings[first][second];
        }
        return end[second] == begin[first] ? uTurn : 0;
    }

    public int prepare() {
        if (begin.length == 0) {
            throw new IllegalStateException();
        }
        if (positions == null) {
            build();
        }
        return shortcuts;
    }

    private void build() {
        int n = begin.length;
        boolean[][] arc = new boolean[n][n];
        for (int a = 0; a < n; a++) {
            for (int b = 0; b < n; b++) {
                arc[a][b] = end[a] == begin[b];
            }
        }
        shortcuts = 0;
        int[] position = new int[n];
        Arrays.fill(position, NO);
        for (int taken = 0; taken < n; taken++) {
            int best = NO;
            int least = 0;
            for (int v = 0; v < n; v++) {
                if (position[v] != NO) {
                    continue;
                }
                int into = 0;
                int out = 0;
                for (int u = 0; u < n; u++) {
                    into += position[u] == NO && arc[u][v] ? 1 : 0;
                    out += position[u] == NO && arc[v][u] ? 1 : 0;
                }
                if (best == NO || into * out < least) {
                    best = v;
                    least = into * out;
                }
            }
            position[best] = taken;
            for (int u = 0; u < n; u++) {
                for (int w = 0; w < n; w++) {
                    if (position[u] == NO && position[w] == NO && u != w
                            && arc[u][best] && arc[best][w] && !arc[u][w]) {
                        arc[u][w] = true;
                        shortcuts++;
                    }
                }
            }
        }
        positions = position;
        arcs = arc;
        costs = allCosts();
    }

    public boolean isPrepared() {
        return positions != null;
    }

    public int position(int road) {
        prepared();
        road(road);
        return positions[road];
    }

    public int arcCount() {
        int count = 0;
        for (int a = 0; positions != null && a < begin.length; a++) {
            for (int b = 0; b < begin.length; b++) {
                count += arcs[a][b] ? 1 : 0;
            }
        }
        return count;
    }

    public boolean hasArc(int first, int second) {
        prepared();
        road(first);
        road(second);
        return arcs[first][second];
    }

    public int arcCost(int first, int second) {
        if (!hasArc(first, second)) {
            throw new NoSuchElementException();
        }
        return costs[first][second];
    }

    public int distance(int from, int to) {
        prepared();
        junction(from);
        junction(to);
        return far(from, to);
    }

    public int distanceBehind(int road, int to) {
        prepared();
        road(road);
        junction(to);
        Path path = bestTo(pathsAfter(List.of(road)), to);
        return path == null ? -1 : path.cost - weights[road];
    }

    public int route(int from, int to) {
        prepared();
        junction(from);
        junction(to);
        Path path = best(from, to);
        if (path == null) {
            throw new NoSuchElementException();
        }
        kept = path;
        return path.roads.size();
    }

    public int routeRoad(int index) {
        if (kept == null || index < 0 || index >= kept.roads.size()) {
            throw new IndexOutOfBoundsException();
        }
        return kept.roads.get(index);
    }

    public int routeCost() {
        return kept == null ? 0 : kept.cost;
    }

    public int reach(int from, int budget) {
        prepared();
        junction(from);
        if (budget < 0) {
            throw new IllegalArgumentException();
        }
        List<int[]> found = new ArrayList<>();
        for (int to = 0; to < junctions; to++) {
            int far = far(from, to);
            if (far >= 0 && far <= budget) {
                found.add(new int[] {far, to});
            }
        }
        found.sort((a, b) -> a[0] != b[0] ? Integer.compare(a[0], b[0]) : Integer.compare(a[1], b[1]));
        reached = new ArrayList<>();
        for (int[] pair : found) {
            reached.add(pair[1]);
        }
        return reached.size();
    }

    public int reached(int index) {
        if (index < 0 || index >= reached.size()) {
            throw new IndexOutOfBoundsException();
        }
        return reached.get(index);
    }

    public double averageDistance(int from) {
        prepared();
        junction(from);
        long sum = 0;
        int count = 0;
        for (int to = 0; to < junctions; to++) {
            int far = far(from, to);
            if (to != from && far >= 0) {
                sum += far;
                count++;
            }
        }
        return count == 0 ? 0 : (double) sum / count;
    }

    public int detour(int from, int to, int road) {
        prepared();
        junction(from);
        junction(to);
        road(road);
        int now = far(from, to);
        if (now < 0) {
            throw new NoSuchElementException();
        }
        boolean wasOpen = open[road];
        open[road] = false;
        int then = far(from, to);
        open[road] = wasOpen;
        return then < 0 ? -1 : then - now;
    }

    public boolean setPlace(int junction, int kind, boolean isThere) {
        junction(junction);
        kind(kind);
        boolean was = places[junction][kind];
        places[junction][kind] = isThere;
        return was;
    }

    public int nearest(int from, int kind) {
        prepared();
        junction(from);
        kind(kind);
        int nearest = NO;
        for (int to = junctions - 1; to >= 0; to--) {
            if (places[to][kind] && far(from, to) >= 0
                    && (nearest == NO || far(from, to) <= far(from, nearest))) {
                nearest = to;
            }
        }
        if (nearest == NO) {
            throw new NoSuchElementException();
        }
        return nearest;
    }

    public int push() {
        if (levels.size() == 8) {
            throw new IllegalStateException();
        }
        int[][] copy = new int[begin.length][];
        for (int a = 0; a < begin.length; a++) {
            copy[a] = settings[a].clone();
        }
        levels.add(new Stored(weights.clone(), open.clone(), copy, uTurn));
        return levels.size();
    }

    public int pop() {
        if (levels.isEmpty()) {
            throw new IllegalStateException();
        }
        Stored stored = levels.remove(levels.size() - 1);
        for (int a = 0; a < stored.weights.length; a++) {
            weights[a] = stored.weights[a];
            open[a] = stored.open[a];
            for (int b = 0; b < stored.weights.length; b++) {
                settings[a][b] = stored.settings[a][b];
            }
        }
        uTurn = stored.uTurn;
        return changes();
    }

    public long digest() {
        List<Integer> numbers = new ArrayList<>();
        numbers.add(junctions);
        numbers.add(begin.length);
        numbers.add(levels.size());
        numbers.add(arcCount());
        for (int a = 0; a < begin.length; a++) {
            numbers.add(weights[a]);
            numbers.add(open[a] ? 1 : 0);
            if (positions != null) {
                numbers.add(positions[a]);
            }
        }
        for (int a = 0; positions != null && a < begin.length; a++) {
            for (int b = 0; b < begin.length; b++) {
                if (arcs[a][b]) {
                    numbers.add(costs[a][b]);
                }
            }
        }
        long d = 23;
        for (int x : numbers) {
            d = d * 31 + x;
        }
        return d;
    }

    private void junction(int junction) {
        if (junction < 0 || junction >= junctions) {
            throw new IndexOutOfBoundsException();
        }
    }

    private void road(int road) {
        if (road < 0 || road >= begin.length) {
            throw new IndexOutOfBoundsException();
        }
    }

    private void kind(int kind) {
        if (kind < 0 || kind > 3) {
            throw new IndexOutOfBoundsException();
        }
    }

    private void turn(int first, int second) {
        road(first);
        road(second);
        if (begin[second] != end[first]) {
            throw new IllegalArgumentException();
        }
    }

    private void prepared() {
        if (positions == null) {
            throw new IllegalStateException();
        }
    }

    private int changes() {
        if (positions == null) {
            return 0;
        }
        int[][] fresh = allCosts();
        int count = 0;
        for (int a = 0; a < fresh.length; a++) {
            for (int b = 0; b < fresh.length; b++) {
                count += arcs[a][b] && fresh[a][b] != costs[a][b] ? 1 : 0;
            }
        }
        costs = fresh;
        return count;
    }

    private int[][] allCosts() {
        int n = begin.length;
        int[][] found = new int[n][n];
        for (int a = 0; a < n; a++) {
            for (int b = 0; b < n; b++) {
                found[a][b] = arcs[a][b] ? costOfArc(a, b) : NO;
            }
        }
        return found;
    }

    /** From a to b over roads with positions below both, by relaxing until nothing changes. */
    private int costOfArc(int a, int b) {
        int n = begin.length;
        int limit = Math.min(positions[a], positions[b]);
        int[] far = new int[n];
        Arrays.fill(far, NO);
        if (!open[a]) {
            return NO;
        }
        far[a] = 0;
        for (boolean changed = true; changed;) {
            changed = false;
            for (int u = 0; u < n; u++) {
                if (far[u] == NO || u == b) {
                    continue;
                }
                for (int w = 0; w < n; w++) {
                    if ((positions[w] < limit || w == b) && canTurn(u, w)) {
                        int cost = far[u] + turnPenalty(u, w) + weights[w];
                        if (far[w] == NO || cost < far[w]) {
                            far[w] = cost;
                            changed = true;
                        }
                    }
                }
            }
        }
        return far[b];
    }

    private boolean canTurn(int u, int w) {
        return end[u] == begin[w] && open[u] && open[w] && turnPenalty(u, w) != -1;
    }

    private int far(int from, int to) {
        Path path = best(from, to);
        return path == null ? NO : path.cost;
    }

    private Path best(int from, int to) {
        if (from == to) {
            return new Path(0, new ArrayList<>());
        }
        List<Integer> starts = new ArrayList<>();
        for (int a = 0; a < begin.length; a++) {
            if (begin[a] == from) {
                starts.add(a);
            }
        }
        return bestTo(pathsAfter(starts), to);
    }

    private Path bestTo(Path[] paths, int to) {
        Path best = null;
        for (int a = 0; a < begin.length; a++) {
            if (end[a] == to && paths[a] != null && paths[a].isBetterThan(best)) {
                best = paths[a];
            }
        }
        return best;
    }

    /** The best path to each road that begins with one of the given ones. */
    private Path[] pathsAfter(List<Integer> starts) {
        int n = begin.length;
        Path[] paths = new Path[n];
        for (int a : starts) {
            if (open[a]) {
                paths[a] = new Path(weights[a], List.of(a));
            }
        }
        for (boolean changed = true; changed;) {
            changed = false;
            for (int u = 0; u < n; u++) {
                for (int w = 0; w < n && paths[u] != null; w++) {
                    if (!canTurn(u, w)) {
                        continue;
                    }
                    int cost = paths[u].cost + turnPenalty(u, w) + weights[w];
                    if (paths[w] != null && cost > paths[w].cost) {
                        continue;
                    }
                    List<Integer> roads = new ArrayList<>(paths[u].roads);
                    roads.add(w);
                    Path path = new Path(cost, roads);
                    if (path.isBetterThan(paths[w])) {
                        paths[w] = path;
                        changed = true;
                    }
                }
            }
        }
        return paths;
    }
}
