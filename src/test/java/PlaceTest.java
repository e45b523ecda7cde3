/** Promises 6 to 11: drop, dropBraid, figure, visit, linking, alike. */
public final class PlaceTest {
    private static final int[] NO_PLACES = {-1, 40, 7, Integer.MIN_VALUE, Integer.MAX_VALUE};
    private static final Bench BENCH = new Bench();

    public static void main(String[] args) {
        drops();
        figures();
        visits();
        linkings();
        alikes();
        BENCH.finish();
    }

    private static void drops() {
        KnotHouse house = new KnotHouse();
        Bench.diagram(house, Bench.TREFOIL);
        Bench.diagram(house, "");
        Bench.braid(house, 3, "ab");
        BENCH.due("drop", true, () -> house.drop(0));
        BENCH.due("drop again", false, () -> house.drop(0));
        BENCH.due("the other stays", true, () -> house.alike(1, 1));
        BENCH.due("a braid stays", true, () -> house.equal(0, 0));
        BENCH.due("figure of what went", Bench.INDEX, () -> house.figure(0, 0));
        BENCH.due("the place is free", 0, () -> Bench.diagram(house, Bench.HOPF));
        BENCH.due("dropBraid", true, () -> house.dropBraid(0));
        BENCH.due("dropBraid again", false, () -> house.dropBraid(0));
        BENCH.due("normal of what went", Bench.INDEX, () -> house.normal(0, 0));
        BENCH.due("diagrams stay", true, () -> house.drop(0));
        for (int place : NO_PLACES) {
            BENCH.due("drop " + place, false, () -> house.drop(place));
            BENCH.due("dropBraid " + place, false, () -> house.dropBraid(place));
        }
        BENCH.due("dropBraid 20", false, () -> house.dropBraid(20));
    }

    private static void figuresOf(String text, int... due) {
        KnotHouse house = new KnotHouse();
        Bench.diagram(house, text);
        for (int what = 0; what < due.length; what++) {
            int which = what;
            BENCH.due("figure " + what + " of " + text, due[what], () -> house.figure(0, which));
        }
    }

    private static void figures() {
        figuresOf("", 0, 1, 1, 1, 0, 1);
        figuresOf(";;;;;", 0, 6, 6, 6, 0, 1);
        figuresOf(Bench.TREFOIL, 3, 1, 0, 1, 3, 1);
        figuresOf("u1-o2-u3-o1-u2-o3-", 3, 1, 0, 1, -3, 1);
        figuresOf(Bench.HOPF + ";;o3-u3-", 3, 4, 1, 3, 1, 1);
        figuresOf("o1+o2-;u1+u2-", 2, 2, 0, 1, 0, 0);
        figuresOf("o1+u1+u2-o2-", 2, 1, 0, 1, 0, 0);
        KnotHouse house = new KnotHouse();
        Bench.diagram(house, Bench.TREFOIL);
        for (int what : new int[] {-1, 6, Integer.MAX_VALUE, Integer.MIN_VALUE}) {
            BENCH.due("figure " + what, Bench.ARGUMENT, () -> house.figure(0, what));
        }
        for (int place : NO_PLACES) {
            BENCH.due("figure of " + place, Bench.INDEX, () -> house.figure(place, 0));
            BENCH.due("figure of " + place + ", the place first", Bench.INDEX, () -> house.figure(place, 9));
        }
    }

    private static void visits() {
        KnotHouse house = new KnotHouse();
        // The code begins over with +, and goes to the other component from the crossing come to first.
        Bench.diagram(house, "u1+o2+;u3-o3-;o1+u2+;;");
        int[][] due = {
            {0, 0, 0, -1}, {0, 0, 1, -1},
            {1, 1, 0, 1}, {1, 2, 1, 1},
            {2, 1, 1, 1}, {2, 2, 0, 1},
        };
        for (int i = 0; i < due.length; i++) {
            for (int what = 0; what < 4; what++) {
                int number = i;
                int which = what;
                BENCH.due("visit " + i + ", " + what, due[i][what], () -> house.visit(0, number, which));
            }
        }
        for (int i : new int[] {-1, 6, 7, Integer.MAX_VALUE, Integer.MIN_VALUE}) {
            BENCH.due("visit " + i, Bench.INDEX, () -> house.visit(0, i, 0));
            BENCH.due("visit " + i + " ahead of what", Bench.INDEX, () -> house.visit(0, i, 4));
        }
        for (int what : new int[] {-1, 4, Integer.MAX_VALUE, Integer.MIN_VALUE}) {
            BENCH.due("visit, " + what, Bench.ARGUMENT, () -> house.visit(0, 5, what));
        }
        for (int place : NO_PLACES) {
            BENCH.due("visit of " + place, Bench.INDEX, () -> house.visit(place, 0, 0));
        }
        BENCH.due("a circle", 1, () -> Bench.diagram(house, ""));
        BENCH.due("a circle has no visits", Bench.INDEX, () -> house.visit(1, 0, 0));
    }

    private static void linkings() {
        KnotHouse house = new KnotHouse();
        Bench.diagram(house, Bench.HOPF + ";");
        BENCH.due("Hopf", 1, () -> house.linking(0, 0, 1));
        BENCH.due("Hopf, turned", 1, () -> house.linking(0, 1, 0));
        BENCH.due("a circle", 0, () -> house.linking(0, 1, 2));
        Bench.closure(house, 2, "AAAA");
        BENCH.due("four times", -2, () -> house.linking(1, 1, 0));
        Bench.closure(house, 3, "aaBB");
        BENCH.due("of one and two", 0, () -> house.linking(2, 0, 1) + house.linking(2, 1, 2) + house.linking(2, 0, 2));
        Bench.closure(house, 2, "aA");
        BENCH.due("unlike signs", 0, () -> house.linking(3, 0, 1));
        BENCH.due("one component", Bench.ARGUMENT, () -> house.linking(0, 1, 1));
        BENCH.due("the component is looked at first", Bench.INDEX, () -> house.linking(0, 3, 3));
        for (int c : new int[] {-1, 3, Integer.MAX_VALUE, Integer.MIN_VALUE}) {
            BENCH.due("component " + c, Bench.INDEX, () -> house.linking(0, c, 0));
            BENCH.due("component " + c, Bench.INDEX, () -> house.linking(0, 0, c));
        }
        for (int place : NO_PLACES) {
            BENCH.due("linking of " + place, Bench.INDEX, () -> house.linking(place, 0, 0));
        }
    }

    private static void alikes() {
        KnotHouse house = new KnotHouse();
        Bench.diagram(house, Bench.TREFOIL);
        Bench.diagram(house, "u3+o1+u2+o3+u1+o2+");
        Bench.diagram(house, "o1-u2-o3-u1-o2-u3-");
        Bench.diagram(house, Bench.TREFOIL + ";");
        Bench.diagram(house, ";" + Bench.TREFOIL);
        BENCH.due("other names and start", true, () -> house.alike(0, 1));
        BENCH.due("itself", true, () -> house.alike(2, 2));
        BENCH.due("other signs", false, () -> house.alike(0, 2));
        BENCH.due("one circle more", false, () -> house.alike(0, 3));
        BENCH.due("the circle first", true, () -> house.alike(3, 4));
        for (int place : NO_PLACES) {
            BENCH.due("alike to " + place, false, () -> house.alike(place, 0));
            BENCH.due("alike to " + place, false, () -> house.alike(0, place));
            BENCH.due("alike to " + place, false, () -> house.alike(place, place));
        }
    }
}
