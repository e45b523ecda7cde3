/** Promises 12 to 17: mirror, reverse, change, smooth, apart, join. */
public final class MakeTest {
    private static final int[] NO_PLACES = {-1, 40, 30, Integer.MIN_VALUE, Integer.MAX_VALUE};
    private static final int[] FAR = {-2, 99, Integer.MIN_VALUE, Integer.MAX_VALUE};
    private static final Bench BENCH = new Bench();

    public static void main(String[] args) {
        mirrors();
        reverses();
        changes();
        smooths();
        aparts();
        joins();
        withoutPlace();
        BENCH.finish();
    }

    private static void mirrors() {
        KnotHouse house = new KnotHouse();
        Bench.diagram(house, "o1+u2+o3+u1+o2+u3+;;o4-u4-");
        BENCH.due("mirror", 1, () -> house.mirror(0));
        BENCH.due("its code", "o0+u0+|o1-u2-o3-u1-o2-u3-||", () -> Bench.show(house, 1));
        BENCH.due("the first stays", "o0-u0-|o1+u2+o3+u1+o2+u3+||", () -> Bench.show(house, 0));
        house.mirror(1);
        BENCH.due("twice", true, () -> house.alike(0, 2));
        for (int place : NO_PLACES) {
            BENCH.due("mirror " + place, Bench.INDEX, () -> house.mirror(place));
        }
    }

    private static void reverses() {
        KnotHouse house = new KnotHouse();
        Bench.diagram(house, Bench.HOPF + ";o3+u3+;");
        BENCH.due("numbered", "o0+u0+|o1+u2+|u1+o2+||", () -> Bench.show(house, 0));
        BENCH.due("of one with another", 1, () -> house.reverse(0, 1));
        BENCH.due("its signs turn", "o0+u0+|o1-u2-|u1-o2-||", () -> Bench.show(house, 1));
        BENCH.due("a crossing of one alone", 2, () -> house.reverse(0, 0));
        BENCH.due("its sign stays", true, () -> house.alike(0, 2));
        BENCH.due("a circle", 3, () -> house.reverse(0, 3));
        BENCH.due("is as before", true, () -> house.alike(0, 3));
        BENCH.due("all", 4, () -> house.reverse(0, KnotHouse.NONE));
        BENCH.due("signs stay", 3, () -> house.figure(4, 4));
        for (int c : FAR) {
            BENCH.due("component " + c, Bench.INDEX, () -> house.reverse(0, c));
        }
        BENCH.due("component 4", Bench.INDEX, () -> house.reverse(0, 4));
        for (int place : NO_PLACES) {
            BENCH.due("reverse of " + place, Bench.INDEX, () -> house.reverse(place, -1));
        }
        KnotHouse turned = new KnotHouse();
        Bench.diagram(turned, "o1+u1+u2+o2+o3-u3-");
        Bench.diagram(turned, "u3-o3-o2+u2+u1+o1+");
        turned.reverse(0, 0);
        BENCH.due("the row from its end", true, () -> turned.alike(1, 2));
        BENCH.due("another row", false, () -> turned.alike(0, 2));
    }

    private static void changes() {
        KnotHouse house = new KnotHouse();
        Bench.diagram(house, Bench.TREFOIL);
        BENCH.due("change", 1, () -> house.change(0, 1));
        Bench.diagram(house, "o1+o2-o3+u1+u2-u3+");
        BENCH.due("is that", true, () -> house.alike(1, 2));
        for (int x = 0; x < 3; x++) {
            int crossing = x;
            BENCH.due("all are alike", true, () -> house.alike(house.change(0, crossing), 1));
        }
        BENCH.due("crossing 3", Bench.INDEX, () -> house.change(0, 3));
        BENCH.due("crossing -1", Bench.INDEX, () -> house.change(0, -1));
        for (int x : FAR) {
            BENCH.due("crossing " + x, Bench.INDEX, () -> house.change(0, x));
        }
        for (int place : NO_PLACES) {
            BENCH.due("change of " + place, Bench.INDEX, () -> house.change(place, 0));
        }
    }

    private static void smooths() {
        KnotHouse house = new KnotHouse();
        Bench.diagram(house, Bench.TREFOIL);
        BENCH.due("smooth", 1, () -> house.smooth(0, 2));
        BENCH.due("a Hopf link", "o0+u1+|u0+o1+|", () -> Bench.show(house, 1));
        BENCH.due("smooth", 2, () -> house.smooth(1, 0));
        BENCH.due("a loop", "o0+u0+|", () -> Bench.show(house, 2));
        BENCH.due("smooth", 3, () -> house.smooth(2, 0));
        BENCH.due("two circles", "||", () -> Bench.show(house, 3));
        Bench.diagram(house, "o1+u1+;;;;;");
        BENCH.due("seven components", Bench.UNSUPPORTED, () -> house.smooth(4, 0));
        BENCH.due("the crossing is looked at first", Bench.INDEX, () -> house.smooth(4, 1));
        Bench.diagram(house, Bench.HOPF + ";;;;");
        BENCH.due("five of six", 5, () -> house.figure(house.smooth(5, 1), 1));
        BENCH.due("crossing 3", Bench.INDEX, () -> house.smooth(0, 3));
        BENCH.due("crossing -1", Bench.INDEX, () -> house.smooth(0, -1));
        for (int place : NO_PLACES) {
            BENCH.due("smooth of " + place, Bench.INDEX, () -> house.smooth(place, 0));
        }
    }

    private static void aparts() {
        KnotHouse house = new KnotHouse();
        Bench.diagram(house, Bench.TREFOIL + ";");
        Bench.diagram(house, Bench.HOPF);
        BENCH.due("apart", 2, () -> house.apart(0, 1));
        BENCH.due("the lesser part first", "o0+u1+|u0+o1+|o2+u3+o4+u2+o3+u4+||", () -> Bench.show(house, 2));
        house.apart(1, 0);
        BENCH.due("the other way round", true, () -> house.alike(2, 3));
        BENCH.due("one twice", 4, () -> house.apart(0, 0));
        BENCH.due("its crossings", 6, () -> house.figure(4, 0));
        BENCH.due("eight components", Bench.UNSUPPORTED, () -> house.apart(4, 4));
        BENCH.due("six components", 5, () -> house.apart(4, 1));
        BENCH.due("seven components", Bench.UNSUPPORTED, () -> house.apart(5, 0));
        Bench.closure(house, 2, "aaaaaaa");
        Bench.closure(house, 2, "aaaaaa");
        BENCH.due("thirteen crossings", Bench.UNSUPPORTED, () -> house.apart(6, 7));
        BENCH.due("twelve crossings", 12, () -> house.figure(house.apart(7, 7), 0));
        for (int place : NO_PLACES) {
            BENCH.due("apart of " + place, Bench.INDEX, () -> house.apart(place, 0));
            BENCH.due("apart with " + place, Bench.INDEX, () -> house.apart(0, place));
        }
    }

    private static void joins() {
        KnotHouse house = new KnotHouse();
        Bench.diagram(house, "o1+u1+o2-u2-");
        Bench.diagram(house, Bench.TREFOIL);
        // Behind visit 1 of the first: behind visit 0 of the second come 1, 2, .., 5, 0.
        BENCH.due("join", 2, () -> house.join(0, 1, 1, 0));
        Bench.diagram(house, "o1+u1+u4+o5+u3+o4+u5+o3+o2-u2-");
        BENCH.due("is that", true, () -> house.alike(2, 3));
        house.join(1, 5, 1, 2);
        BENCH.due("with itself", 6, () -> house.figure(4, 0));
        BENCH.due("one component", 1, () -> house.figure(4, 1));
        Bench.diagram(house, Bench.HOPF + ";;");
        BENCH.due("four components", 4, () -> house.figure(house.join(5, 0, 0, 0), 1));
        Bench.diagram(house, Bench.HOPF + ";");
        BENCH.due("six components behind it", 6, () -> house.figure(house.join(5, 0, 7, 3), 1));
        BENCH.due("seven components behind it", Bench.UNSUPPORTED, () -> house.join(5, 0, 5, 1));
        Bench.closure(house, 2, "aaaaaaa");
        BENCH.due("fourteen crossings", Bench.UNSUPPORTED, () -> house.join(9, 0, 9, 0));
        BENCH.due("visit -1", Bench.INDEX, () -> house.join(1, -1, 1, 0));
        BENCH.due("visit 6", Bench.INDEX, () -> house.join(1, 6, 1, 0));
        BENCH.due("visit -1", Bench.INDEX, () -> house.join(1, 0, 1, -1));
        BENCH.due("visit 6", Bench.INDEX, () -> house.join(1, 0, 1, 6));
        BENCH.due("the visit is looked at first", Bench.INDEX, () -> house.join(9, 0, 9, 14));
        Bench.diagram(house, "");
        BENCH.due("a circle has no visit", Bench.INDEX, () -> house.join(10, 0, 1, 0));
        for (int place : NO_PLACES) {
            BENCH.due("join of " + place, Bench.INDEX, () -> house.join(place, 0, 1, 0));
            BENCH.due("join with " + place, Bench.INDEX, () -> house.join(1, 0, place, 0));
        }
    }

    private static void withoutPlace() {
        KnotHouse house = new KnotHouse();
        Bench.diagram(house, Bench.TREFOIL);
        Bench.diagram(house, "o1+u1+;;;;;");
        Bench.fillDiagrams(house);
        BENCH.due("mirror", Bench.STATE, () -> house.mirror(0));
        BENCH.due("reverse", Bench.STATE, () -> house.reverse(0, 0));
        BENCH.due("reverse", Bench.INDEX, () -> house.reverse(0, 1));
        BENCH.due("change", Bench.STATE, () -> house.change(0, 0));
        BENCH.due("change", Bench.INDEX, () -> house.change(0, 3));
        BENCH.due("smooth", Bench.STATE, () -> house.smooth(0, 0));
        BENCH.due("smooth", Bench.UNSUPPORTED, () -> house.smooth(1, 0));
        BENCH.due("apart", Bench.STATE, () -> house.apart(0, 0));
        BENCH.due("apart", Bench.UNSUPPORTED, () -> house.apart(0, 1));
        BENCH.due("join", Bench.STATE, () -> house.join(0, 0, 0, 0));
        BENCH.due("join", Bench.INDEX, () -> house.join(0, 6, 0, 0));
        BENCH.due("join of 3 + 1 crossings, six components", Bench.STATE, () -> house.join(0, 0, 1, 0));
        BENCH.due("join of 6 + 6 - 1 components", Bench.UNSUPPORTED, () -> house.join(1, 0, 1, 0));
        house.drop(23);
        BENCH.due("the free place", 23, () -> house.mirror(0));
    }
}
