/**
 * An oracle in a state at the edge of what the document names: empty, full, with and without a
 * hierarchy. Each can be made anew as often as a test likes, by fewer than 150 calls.
 */
enum State {
    EMPTY(0, 0, 0, false, 0, 0),
    ONE_JUNCTION(1, 0, 1, false, 0, 0),
    SMALL(4, 5, 2, true, 2, 3),
    SMALL_UNPREPARED(4, 6, 2, false, 2, 3),
    FULL(32, 64, 8, true, 2, 32),
    FULL_UNPREPARED(32, 64, 8, false, 2, 32);

    /** From, to and weight of the roads of the small states; junction 3 has none. */
    private static final int[][] SMALL_ROADS =
            {{0, 1, 5}, {1, 2, 7}, {2, 0, 9}, {1, 0, 4}, {0, 1, 30}, {2, 1, 3}};

    final int junctions;
    final int roads;
    final int levels;
    final boolean prepared;
    final int keptRoads;
    final int keptJunctions;

    State(int junctions, int roads, int levels, boolean prepared, int keptRoads, int keptJunctions) {
        this.junctions = junctions;
        this.roads = roads;
        this.levels = levels;
        this.prepared = prepared;
        this.keptRoads = keptRoads;
        this.keptJunctions = keptJunctions;
    }

    boolean hasJunction(int number) {
        return number >= 0 && number < junctions;
    }

    boolean hasRoad(int number) {
        return number >= 0 && number < roads;
    }

    /** Whether the second road follows the first; both must be there. */
    boolean follows(int first, int second) {
        return road(first)[1] == road(second)[0];
    }

    private int[] road(int number) {
        if (junctions < 32) {
            return SMALL_ROADS[number];
        }
        int here = number % 32;
        int there = (here + 1) % 32;
        return number < 32 ? new int[] {here, there, 1 + number} : new int[] {there, here, 1 + number};
    }

    RoadOracle make() {
        RoadOracle x = new RoadOracle();
        for (int i = 0; i < junctions; i++) {
            x.addJunction();
        }
        int first = prepared || roads == 0 ? roads : roads - 1;
        addRoads(x, 0, first);
        if (roads > 0) {
            furnish(x);
        }
        for (int level = 1; level <= levels; level++) {
            if (roads > 0) {
                x.setWeight(0, 10 + level);
            }
            x.push();
        }
        if (roads > 0) {
            change(x);
        }
        // The last road discards the hierarchy; what is kept stays.
        addRoads(x, first, roads);
        return x;
    }

    /** A road from 1 to 0 that no junction needs to be reached. */
    private int roadBack() {
        return junctions < 32 ? 3 : 32;
    }

    private void addRoads(RoadOracle x, int first, int end) {
        for (int i = first; i < end; i++) {
            x.addRoad(road(i)[0], road(i)[1], road(i)[2]);
        }
    }

    private void furnish(RoadOracle x) {
        x.prepare();
        x.setTurn(0, 1, 3);
        x.setTurn(0, roadBack(), RoadOracle.FORBIDDEN);
        x.setUTurn(50);
        x.setPlace(0, 3, true);
        x.setPlace(junctions - 1, 0, true);
    }

    private void change(RoadOracle x) {
        x.setTurn(0, 1, 5);
        x.setOpen(roadBack(), false);
        x.setUTurn(60);
        x.route(0, 2);
        x.reach(0, Integer.MAX_VALUE);
    }
}
