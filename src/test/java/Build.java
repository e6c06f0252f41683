/** Makes networks for the tests. */
final class Build {
    private Build() {
    }

    /** A new oracle with junctions, and a road for each three numbers: from, to, weight. */
    static RoadOracle network(int junctions, int... roads) {
        RoadOracle x = new RoadOracle();
        for (int i = 0; i < junctions; i++) {
            x.addJunction();
        }
        for (int i = 0; i + 2 < roads.length; i += 3) {
            x.addRoad(roads[i], roads[i + 1], roads[i + 2]);
        }
        return x;
    }

    static RoadOracle prepared(int junctions, int... roads) {
        RoadOracle x = network(junctions, roads);
        x.prepare();
        return x;
    }

    /** 64 roads from 0 to 1 and back, 32 each way, the even ones forth and the odd ones back. */
    static RoadOracle full() {
        RoadOracle x = network(2);
        for (int i = 0; i < 64; i++) {
            x.addRoad(i % 2, 1 - i % 2, 1 + i);
        }
        return x;
    }
}
