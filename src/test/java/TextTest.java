/** Promises 1 to 5: a new object, feed, end, diagram, braid. */
public final class TextTest {
    private static final String INDEX = "IndexOutOfBoundsException";
    private static final String ARGUMENT = "IllegalArgumentException";
    private static final String STATE = "IllegalStateException";

    private static final Bench BENCH = new Bench();

    public static void main(String[] args) {
        newObject();
        BENCH.finish();
    }

    private static void newObject() {
        KnotHouse house = new KnotHouse();
        BENCH.due("NONE", -1, () -> KnotHouse.NONE);
        BENCH.due("OPEN", -2, () -> KnotHouse.OPEN);
        BENCH.due("end(0)", Bench.NOTHING, () -> {
            house.end(0);
            return Bench.NOTHING;
        });
        BENCH.due("end(1)", ARGUMENT, () -> {
            house.end(1);
            return Bench.NOTHING;
        });
        BENCH.due("figure(0, 0)", INDEX, () -> house.figure(0, 0));
    }
}
