import java.util.NoSuchElementException;

/** What the tests of the edges have in common. */
abstract class Edge {
    static final int MIN = Integer.MIN_VALUE;
    static final int MAX = Integer.MAX_VALUE;
    static final int FORBIDDEN = RoadOracle.FORBIDDEN;
    static final int DEFAULT = RoadOracle.DEFAULT;
    static final Class<IndexOutOfBoundsException> INDEX = IndexOutOfBoundsException.class;
    static final Class<IllegalArgumentException> ARGUMENT = IllegalArgumentException.class;
    static final Class<IllegalStateException> STATE = IllegalStateException.class;
    static final Class<NoSuchElementException> NONE = NoSuchElementException.class;
    static final Check check = new Check();

    /** Numbers that no junction has, however many there are. */
    static final int[] NO_JUNCTIONS = {MIN, MIN + 1, -64, -32, -2, -1, 32, 33, 63, 64, 256, MAX - 1, MAX};
    /** Numbers that no road has, however many there are. */
    static final int[] NO_ROADS = {MIN, MIN + 1, -64, -2, -1, 64, 65, 128, 4096, MAX - 1, MAX};

    /** The number that the document's checksum makes of these numbers. */
    static long fold(long... numbers) {
        long d = 23;
        for (long x : numbers) {
            d = d * 31 + x;
        }
        return d;
    }
}
