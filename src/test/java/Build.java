/** Makes networks for the tests. */
final class Build {
    private Build() {
    }

    /** A new oracle with junctions, and a road for each three numbers: from, to, weight. */
    static RoadOracle network(int junctions, int... roads) {
        RoadOracle x = new RoadOracle();
        for (int i = 0; i < junctions; i++) {
            x.addJunction();
        }
        for (int i = 0; i + 2 < roads.length; i += 3) {
            x.addRoad(roads[i], roads[i + 1], roads[i + 2]);
        }
        return x;
    }

    static RoadOracle prepared(int junctions, int... roads) {
        RoadOracle x = network(junctions, roads);
        x.prepare();
        return x;
    }

    /** 64 roads from 0 to 1 and back, 32 each way, the even ones forth and the odd ones back. */
    static RoadOracle full() {
        RoadOracle x = network(2);
        for (int i = 0; i < 64; i++) {
            x.addRoad(i % 2, 1 - i % 2, 1 + i);
        }
        return x;
    }

    /**
     * The largest distance there is, made by 194 calls: the one path from junction 3 to junction 2
     * passes all 64 roads in the order of their numbers, each with the weight 10000, by turns that
     * each have the penalty 1000.
     */
    static RoadOracle longest() {
        RoadOracle x = network(4, 3, 0, 10000);
        for (int i = 1; i < 63; i++) {
            x.addRoad(1 - i % 2, i % 2, 10000);
        }
        x.addRoad(0, 2, 10000);
        x.setUTurn(RoadOracle.FORBIDDEN);
        for (int i = 3; i < 63; i += 2) {
            x.setTurn(0, i, RoadOracle.FORBIDDEN);
            x.setTurn(i - 1, 63, RoadOracle.FORBIDDEN);
        }
        x.setTurn(0, 63, RoadOracle.FORBIDDEN);
        for (int i = 0; i < 63; i++) {
            x.setTurn(i, i + 1, 1000);
        }
        x.prepare();
        return x;
    }
}
