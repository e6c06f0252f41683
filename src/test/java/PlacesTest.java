import java.util.NoSuchElementException;

/** Promises 28 and 29: places. */
public final class PlacesTest {
    private static final int MIN = Integer.MIN_VALUE;
    private static final int MAX = Integer.MAX_VALUE;
    private static final Class<IndexOutOfBoundsException> INDEX = IndexOutOfBoundsException.class;
    private static final Class<IllegalStateException> STATE = IllegalStateException.class;
    private static final Class<NoSuchElementException> NONE = NoSuchElementException.class;
    private static final Check check = new Check();

    public static void main(String[] args) {
        setPlace();
        nearest();
        check.finish("PlacesTest");
    }

    private static void setPlace() {
        RoadOracle x = Build.network(32);
        for (int junction = 0; junction < 32; junction++) {
            for (int kind = 0; kind < 4; kind++) {
                check.same("28: the first", x.setPlace(junction, kind, true), false);
            }
        }
        check.same("28: there is one", x.setPlace(31, 3, true), true);
        check.same("28: removed", x.setPlace(31, 3, false), true);
        check.same("28: there is none", x.setPlace(31, 3, false), false);
        check.same("28: put again", x.setPlace(31, 3, true), false);
        check.same("28: another kind", x.setPlace(31, 2, false), true);
        check.same("28: another junction", x.setPlace(0, 0, false), true);
        check.same("28: its other kinds stay", x.setPlace(0, 1, false), true);
        check.fails("28: kind 4", INDEX, () -> x.setPlace(0, 4, true));
        check.fails("28: kind -1", INDEX, () -> x.setPlace(1, -1, true));
        check.fails("28: kind MAX", INDEX, () -> x.setPlace(0, MAX, true));
        check.fails("28: junction 32", INDEX, () -> x.setPlace(32, 0, true));
        check.fails("28: junction -1", INDEX, () -> x.setPlace(-1, 4, true));
        check.fails("28: junction MIN", INDEX, () -> x.setPlace(MIN, 0, true));
        check.same("28: without a hierarchy", x.isPrepared(), false);
        RoadOracle y = Build.network(1);
        check.fails("28: junction 1", INDEX, () -> y.setPlace(1, 0, true));
        y.addJunction();
        check.same("28: a new junction has no places", y.setPlace(1, 0, true), false);
        y.push();
        y.setPlace(1, 0, false);
        y.pop();
        check.same("28: levels do not store places", y.setPlace(1, 0, false), false);
    }

    private static void nearest() {
        RoadOracle x = Build.network(5, 0, 1, 4, 0, 2, 2, 2, 3, 2, 3, 0, 9);
        check.fails("29: without a hierarchy", STATE, () -> x.nearest(0, 0));
        check.fails("29: the state comes first", STATE, () -> x.nearest(9, 9));
        x.prepare();
        check.fails("29: no place", NONE, () -> x.nearest(0, 0));
        x.setPlace(4, 0, true);
        check.fails("29: no path to it", NONE, () -> x.nearest(0, 0));
        x.setPlace(3, 0, true);
        check.same("29: the only one", x.nearest(0, 0), 3);
        x.setPlace(1, 0, true);
        check.same("29: the smaller of two", x.nearest(0, 0), 1);
        x.setPlace(2, 0, true);
        check.same("29: the nearer one", x.nearest(0, 0), 2);
        check.same("29: the junction itself", x.nearest(4, 0), 4);
        check.same("29: the junction itself", x.nearest(3, 0), 3);
        check.fails("29: another kind", NONE, () -> x.nearest(0, 3));
        x.setPlace(0, 3, true);
        check.same("29: another kind", x.nearest(2, 3), 0);
        check.fails("29: no path", NONE, () -> x.nearest(1, 3));
        check.fails("29: junction 5", INDEX, () -> x.nearest(5, 0));
        check.fails("29: junction -1", INDEX, () -> x.nearest(-1, 0));
        check.fails("29: kind 4", INDEX, () -> x.nearest(0, 4));
        check.fails("29: kind -1, where no path is", INDEX, () -> x.nearest(1, -1));
        x.setPlace(2, 0, false);
        x.setWeight(0, 5);
        check.same("29: after a change", x.nearest(0, 0), 3);
        x.setPlace(3, 0, false);
        x.setOpen(0, false);
        check.fails("29: behind a closed road", NONE, () -> x.nearest(0, 0));
    }
}
