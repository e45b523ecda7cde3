/** The edges that the document names in promises 6 to 17, each above its test. */
public final class DiagramEdgeTest {
    private static final int[] FAR = {Integer.MIN_VALUE, Integer.MAX_VALUE};
    private static final Bench BENCH = new Bench();

    public static void main(String[] args) {
        dropsOfNone();
        dropsOfNoBraid();
        figuresOfCircles();
        figuresByNumber();
        alternating();
        firstAndLastVisit();
        numbersOfVisits();
        halfTheSum();
        componentsOfLinking();
        alikeToNone();
        mirrorOfCircles();
        reverseOfEach();
        reverseOfOne();
        changesFirstAndLast();
        smoothToCircles();
        smoothToSeven();
        apartOfOne();
        apartToTheBounds();
        joinBehindTheLast();
        joinToTheBounds();
        nothingChanges();
        BENCH.finish();
    }

    /** A diagram of so many loops with + in one row, and circles beside it. */
    private static String loops(int count, int circles) {
        StringBuilder text = new StringBuilder();
        for (int i = 1; i <= count; i++) {
            text.append('o').append(i).append("+u").append(i).append('+');
        }
        for (int i = 0; i < circles; i++) {
            text.append(';');
        }
        return text.toString();
    }

    /** "A DIAGRAM goes: false, if there was none." */
    private static void dropsOfNone() {
        KnotHouse house = new KnotHouse();
        BENCH.due("of an empty house", false, () -> house.drop(0));
        Bench.fillDiagrams(house);
        for (int place : new int[] {-1, 40, -2, Integer.MIN_VALUE, Integer.MAX_VALUE}) {
            BENCH.due("drop " + place, false, () -> house.drop(place));
        }
        for (int place : new int[] {0, 39}) {
            BENCH.due("drop " + place, true, () -> house.drop(place));
            BENCH.due("once more", false, () -> house.drop(place));
            BENCH.due("it is gone", Bench.INDEX, () -> house.figure(place, 0));
        }
        BENCH.due("others stay", true, () -> house.alike(1, 38));
    }

    /** "A BRAID goes: false, if there was none." */
    private static void dropsOfNoBraid() {
        KnotHouse house = new KnotHouse();
        BENCH.due("of an empty house", false, () -> house.dropBraid(0));
        Bench.fillBraids(house);
        for (int place : new int[] {-1, 20, -2, 39, Integer.MIN_VALUE, Integer.MAX_VALUE}) {
            BENCH.due("drop " + place, false, () -> house.dropBraid(place));
        }
        for (int place : new int[] {0, 19}) {
            BENCH.due("drop " + place, true, () -> house.dropBraid(place));
            BENCH.due("once more", false, () -> house.dropBraid(place));
            BENCH.due("it is gone", Bench.INDEX, () -> house.normal(place, 0));
        }
        BENCH.due("others stay", true, () -> house.equal(1, 18));
    }

    /** "1 if in each COMPONENT no two VISITS .. (5; a CIRCLE has none)"; a circle is counted as each of 1, 2, 3. */
    private static void figuresOfCircles() {
        int[][] due = {{0, 1, 1, 1, 0, 1}, {0, 6, 6, 6, 0, 1}};
        for (int i = 0; i < due.length; i++) {
            KnotHouse house = new KnotHouse();
            Bench.diagram(house, i == 0 ? "" : ";;;;;");
            for (int what = 0; what < 6; what++) {
                int number = what;
                BENCH.due("figure " + what + " of circles", due[i][what], () -> house.figure(0, number));
            }
        }
    }

    /** "IndexOutOfBounds, IllegalArgument: what." */
    private static void figuresByNumber() {
        KnotHouse house = new KnotHouse();
        Bench.diagram(house, loops(12, 5));
        BENCH.due("what 0", 12, () -> house.figure(0, 0));
        BENCH.due("what 5", 1, () -> house.figure(0, 5));
        BENCH.due("what -1", Bench.ARGUMENT, () -> house.figure(0, -1));
        BENCH.due("what 6", Bench.ARGUMENT, () -> house.figure(0, 6));
        BENCH.due("no diagram 1", Bench.INDEX, () -> house.figure(1, 0));
        BENCH.due("the place is told first", Bench.INDEX, () -> house.figure(1, -1));
        BENCH.due("the place is told first", Bench.INDEX, () -> house.figure(40, 6));
        for (int far : FAR) {
            BENCH.due("what " + far, Bench.ARGUMENT, () -> house.figure(0, far));
            BENCH.due("place " + far, Bench.INDEX, () -> house.figure(far, far));
        }
    }

    /** "no two VISITS one behind the other are both OVER or both UNDER": in the last component, and over the end. */
    private static void alternating() {
        KnotHouse house = new KnotHouse();
        Bench.diagram(house, Bench.HOPF + ";o3+o4-;u3+u4-");
        BENCH.due("not in two of four", 0, () -> house.figure(0, 5));
        Bench.diagram(house, "o1+u1+u2+o2+");
        BENCH.due("nor over the end", 0, () -> house.figure(1, 5));
        Bench.diagram(house, Bench.HOPF + ";;o3-u3-");
        BENCH.due("in all", 1, () -> house.figure(2, 5));
        Bench.diagram(house, "o1+u1+;o2+u2+;o3+o4-;u3+u4-");
        BENCH.due("not in the last part", 0, () -> house.figure(3, 5));
    }

    /** "Of VISIT i of a DIAGRAM": numbered "from 0 on, through all PARTS". */
    private static void firstAndLastVisit() {
        KnotHouse house = new KnotHouse();
        Bench.diagram(house, ";" + Bench.TREFOIL + ";o4-u4-");
        int[] first = {0, 0, 0, -1};
        int[] last = {1, 3, 1, 1};
        for (int what = 0; what < 4; what++) {
            int number = what;
            BENCH.due("the first, " + what, first[what], () -> house.visit(0, 0, number));
            BENCH.due("the last, " + what, last[what], () -> house.visit(0, 7, number));
        }
        BENCH.due("visit -1", Bench.INDEX, () -> house.visit(0, -1, 0));
        BENCH.due("visit 8", Bench.INDEX, () -> house.visit(0, 8, 0));
        Bench.diagram(house, "");
        BENCH.due("a circle has no visit", Bench.INDEX, () -> house.visit(1, 0, 0));
    }

    /** "IndexOutOfBounds, IllegalArgument: what." */
    private static void numbersOfVisits() {
        KnotHouse house = new KnotHouse();
        Bench.diagram(house, "o1+u1+");
        BENCH.due("what -1", Bench.ARGUMENT, () -> house.visit(0, 0, -1));
        BENCH.due("what 4", Bench.ARGUMENT, () -> house.visit(0, 0, 4));
        BENCH.due("the visit is told first", Bench.INDEX, () -> house.visit(0, 2, 4));
        BENCH.due("the place is told first", Bench.INDEX, () -> house.visit(1, 0, 4));
        for (int far : FAR) {
            BENCH.due("what " + far, Bench.ARGUMENT, () -> house.visit(0, 1, far));
            BENCH.due("visit " + far, Bench.INDEX, () -> house.visit(0, far, 0));
            BENCH.due("place " + far, Bench.INDEX, () -> house.visit(far, 0, 0));
        }
    }

    /** "Half the sum of the SIGNS (1, -1) of the CROSSINGS of two COMPONENTS with one another." */
    private static void halfTheSum() {
        KnotHouse house = new KnotHouse();
        BENCH.due("below 0", -6, () -> house.linking(Bench.closure(house, 2, "AAAAAAAAAAAA"), 0, 1));
        BENCH.due("the most", 6, () -> house.linking(Bench.closure(house, 2, "aaaaaaaaaaaa"), 1, 0));
        Bench.diagram(house, "o1+u1+o2+u3+;u2+o3+u4-o4-;");
        BENCH.due("crossings of one alone do not count", 1, () -> house.linking(2, 0, 1));
        BENCH.due("a circle", 0, () -> house.linking(2, 0, 2));
        BENCH.due("a circle", 0, () -> house.linking(2, 2, 1));
    }

    /** "IndexOutOfBounds, IllegalArgument: it is one." */
    private static void componentsOfLinking() {
        KnotHouse house = new KnotHouse();
        Bench.diagram(house, Bench.HOPF + ";");
        for (int c : new int[] {-1, 3, Integer.MIN_VALUE, Integer.MAX_VALUE}) {
            BENCH.due("component " + c, Bench.INDEX, () -> house.linking(0, c, 0));
            BENCH.due("component " + c, Bench.INDEX, () -> house.linking(0, 2, c));
            BENCH.due("no such one, told first", Bench.INDEX, () -> house.linking(0, c, c));
        }
        for (int i = 0; i < 3; i++) {
            int c = i;
            BENCH.due("it is one", Bench.ARGUMENT, () -> house.linking(0, c, c));
        }
        BENCH.due("the place is told first", Bench.INDEX, () -> house.linking(1, 0, 0));
    }

    /** "Whether two DIAGRAMS are there, and ALIKE." */
    private static void alikeToNone() {
        KnotHouse house = new KnotHouse();
        BENCH.due("none is there", false, () -> house.alike(0, 0));
        Bench.diagram(house, "");
        BENCH.due("one twice", true, () -> house.alike(0, 0));
        for (int place : new int[] {1, -1, 40, Integer.MIN_VALUE, Integer.MAX_VALUE}) {
            BENCH.due("with " + place, false, () -> house.alike(0, place));
            BENCH.due("with " + place, false, () -> house.alike(place, 0));
        }
        Bench.diagram(house, ";");
        BENCH.due("one circle and two", false, () -> house.alike(0, 1));
        Bench.diagram(house, "");
        BENCH.due("two that are alike", true, () -> house.alike(0, 2));
        house.drop(2);
        BENCH.due("one is gone", false, () -> house.alike(0, 2));
    }

    private static void mirrorOfCircles() {
        KnotHouse house = new KnotHouse();
        Bench.diagram(house, ";;;;;");
        BENCH.due("mirror", 1, () -> house.mirror(0));
        BENCH.due("of circles is alike", true, () -> house.alike(0, 1));
        BENCH.due("reverse of each", 2, () -> house.reverse(0, KnotHouse.NONE));
        BENCH.due("reverse of the last", 3, () -> house.reverse(0, 5));
        BENCH.due("of circles is alike", true, () -> house.alike(2, 3));
        BENCH.due("a circle has no crossing to change", Bench.INDEX, () -> house.change(0, 0));
        BENCH.due("a circle has no crossing to smooth", Bench.INDEX, () -> house.smooth(0, 0));
        BENCH.due("a circle has no visit to join at", Bench.INDEX, () -> house.join(0, 0, 0, 0));
    }

    /** "The row of COMPONENT c (NONE: of each one) is turned round". */
    private static void reverseOfEach() {
        KnotHouse house = new KnotHouse();
        Bench.diagram(house, "o1+u1+u2+o2+o3-u3-");
        Bench.diagram(house, "u3-o3-o2+u2+u1+o1+");
        BENCH.due("NONE", 2, () -> house.reverse(0, -1));
        BENCH.due("the row from its end", true, () -> house.alike(1, 2));
        Bench.diagram(house, Bench.HOPF);
        BENCH.due("both of two", 4, () -> house.reverse(3, KnotHouse.NONE));
        BENCH.due("signs stay", 2, () -> house.figure(4, 4));
        BENCH.due("OPEN is no component", Bench.INDEX, () -> house.reverse(3, KnotHouse.OPEN));
        BENCH.due("there is no component 2", Bench.INDEX, () -> house.reverse(3, 2));
        for (int far : FAR) {
            BENCH.due("component " + far, Bench.INDEX, () -> house.reverse(3, far));
        }
        BENCH.due("no place, NONE", Bench.INDEX, () -> house.reverse(5, KnotHouse.NONE));
    }

    /** "each CROSSING of which just one VISIT is in what is turned has the other SIGN". */
    private static void reverseOfOne() {
        KnotHouse house = new KnotHouse();
        Bench.diagram(house, "o1+u1+o2+u3+;u2+o3+");
        int[] writhes = {-1, -1};
        for (int c = 0; c < 2; c++) {
            int component = c;
            BENCH.due("two of three signs turn", writhes[c], () -> house.figure(house.reverse(0, component), 4));
        }
        BENCH.due("linking turns", -1, () -> house.linking(1, 0, 1));
        house.reverse(1, 0);
        BENCH.due("the first, twice", true, () -> house.alike(0, 3));
    }

    /** "CROSSING x is CHANGED": the first, the last, no other. */
    private static void changesFirstAndLast() {
        KnotHouse house = new KnotHouse();
        Bench.diagram(house, "o1+u1+;o2-u2-");
        BENCH.due("the first", "o0-u0-|o1-u1-|", () -> Bench.show(house, house.change(0, 0)));
        BENCH.due("the last", "o0+u0+|o1+u1+|", () -> Bench.show(house, house.change(0, 1)));
        for (int x : new int[] {-1, 2, Integer.MIN_VALUE, Integer.MAX_VALUE}) {
            BENCH.due("crossing " + x, Bench.INDEX, () -> house.change(0, x));
            BENCH.due("crossing " + x, Bench.INDEX, () -> house.smooth(0, x));
        }
        BENCH.due("smooth the first", "o0-u0-|||", () -> Bench.show(house, house.smooth(0, 0)));
        BENCH.due("smooth the last", "o0+u0+|||", () -> Bench.show(house, house.smooth(0, 1)));
    }

    /** "(a GAP that goes on with itself becomes a CIRCLE)". */
    private static void smoothToCircles() {
        KnotHouse house = new KnotHouse();
        Bench.diagram(house, "o1+u1+");
        BENCH.due("both gaps", "||", () -> Bench.show(house, house.smooth(0, 0)));
        Bench.diagram(house, "o1+u1+o2-u2-");
        BENCH.due("one gap", "o0-u0-||", () -> Bench.show(house, house.smooth(2, 0)));
        Bench.diagram(house, "u1+o1+o2-u2-");
        BENCH.due("the gap over the end of the row", "o0-u0-||", () -> Bench.show(house, house.smooth(4, 0)));
        Bench.diagram(house, "o1+o2-;u1+u2-");
        BENCH.due("two components become one", 1, () -> house.figure(house.smooth(6, 0), 1));
    }

    /** "UnsupportedOperation: more than 6 COMPONENTS come of it". */
    private static void smoothToSeven() {
        KnotHouse house = new KnotHouse();
        Bench.diagram(house, loops(2, 4));
        BENCH.due("six", 6, () -> house.figure(house.smooth(0, 0), 1));
        BENCH.due("seven", Bench.UNSUPPORTED, () -> house.smooth(1, 0));
        BENCH.due("nothing came", false, () -> house.drop(2));
        BENCH.due("no such crossing, told first", Bench.INDEX, () -> house.smooth(1, 1));
        Bench.diagram(house, Bench.HOPF + ";;;;");
        BENCH.due("of six five", 5, () -> house.figure(house.smooth(2, 0), 1));
        Bench.diagram(house, "o1+u1+o2+u3+;u2+o3+;;;;");
        BENCH.due("of six seven", Bench.UNSUPPORTED, () -> house.smooth(4, 0));
        BENCH.due("of six five by another crossing", 5, () -> house.figure(house.smooth(4, 1), 1));
    }

    /** "Two DIAGRAMS (one twice, too) apart as one". */
    private static void apartOfOne() {
        KnotHouse house = new KnotHouse();
        Bench.diagram(house, "");
        BENCH.due("one twice", "||", () -> Bench.show(house, house.apart(0, 0)));
        Bench.diagram(house, "o1-u1-");
        BENCH.due("one twice", "o0-u0-|o1-u1-|", () -> Bench.show(house, house.apart(2, 2)));
        BENCH.due("with a circle", "o0-u0-||", () -> Bench.show(house, house.apart(0, 2)));
        for (int place : new int[] {-1, 5, 40, Integer.MIN_VALUE, Integer.MAX_VALUE}) {
            BENCH.due("apart of " + place, Bench.INDEX, () -> house.apart(place, 0));
            BENCH.due("apart with " + place, Bench.INDEX, () -> house.apart(0, place));
        }
    }

    /** "UnsupportedOperation: more than 12 CROSSINGS, 6 COMPONENTS". */
    private static void apartToTheBounds() {
        KnotHouse house = new KnotHouse();
        Bench.diagram(house, loops(6, 2));
        Bench.diagram(house, loops(7, 0));
        Bench.diagram(house, loops(0, 3));
        Bench.diagram(house, loops(12, 5));
        BENCH.due("6 + 6 crossings, 3 + 3 components", 12, () -> house.figure(house.apart(0, 0), 0));
        BENCH.due("six components", 6, () -> house.figure(4, 1));
        BENCH.due("6 + 7 crossings", Bench.UNSUPPORTED, () -> house.apart(0, 1));
        BENCH.due("3 + 4 components", Bench.UNSUPPORTED, () -> house.apart(0, 2));
        BENCH.due("24 crossings, 12 components", Bench.UNSUPPORTED, () -> house.apart(3, 3));
        BENCH.due("nothing came", false, () -> house.drop(5));
    }

    /** "behind v come all of the other's from behind w on, up to w, then what was behind v": over both ends. */
    private static void joinBehindTheLast() {
        KnotHouse house = new KnotHouse();
        Bench.diagram(house, "o1+u1+o2-u2-");
        Bench.diagram(house, "o1+u1+u2+o2+");
        BENCH.due("the codes", "o0+u0+o1-u1-| o0+u0+u1+o1+|",
            () -> Bench.show(house, 0) + " " + Bench.show(house, 1));
        // Behind the last of each stands its first.
        BENCH.due("last and last", 2, () -> house.join(0, 3, 1, 3));
        Bench.diagram(house, "o1+u1+o2-u2-o3+u3+u4+o4+");
        BENCH.due("is that", true, () -> house.alike(2, 3));
        BENCH.due("first and last", 4, () -> house.join(0, 0, 1, 3));
        Bench.diagram(house, "o1+o3+u3+u4+o4+u1+o2-u2-");
        BENCH.due("is that", true, () -> house.alike(4, 5));
        BENCH.due("last and first", 6, () -> house.join(0, 3, 1, 0));
        Bench.diagram(house, "o1+u1+o2-u2-u3+u4+o4+o3+");
        BENCH.due("is that", true, () -> house.alike(6, 7));
        for (int v : new int[] {-1, 4, Integer.MIN_VALUE, Integer.MAX_VALUE}) {
            BENCH.due("visit " + v, Bench.INDEX, () -> house.join(0, v, 1, 0));
            BENCH.due("visit " + v, Bench.INDEX, () -> house.join(0, 0, 1, v));
            BENCH.due("diagram " + (v < 0 ? v : 8), Bench.INDEX, () -> house.join(v < 0 ? v : 8, 0, 1, 0));
            BENCH.due("diagram " + (v < 0 ? v : 8), Bench.INDEX, () -> house.join(0, 0, v < 0 ? v : 8, 0));
        }
    }

    /** "UnsupportedOperation: as with apart(), the COMPONENTS counted behind it". */
    private static void joinToTheBounds() {
        KnotHouse house = new KnotHouse();
        Bench.diagram(house, loops(6, 2));
        Bench.diagram(house, loops(7, 0));
        Bench.diagram(house, loops(1, 3));
        Bench.diagram(house, loops(1, 4));
        BENCH.due("6 + 6 crossings", 12, () -> house.figure(house.join(0, 11, 0, 0), 0));
        BENCH.due("3 + 3 - 1 components", 5, () -> house.figure(4, 1));
        BENCH.due("6 + 7 crossings", Bench.UNSUPPORTED, () -> house.join(0, 0, 1, 0));
        BENCH.due("3 + 4 - 1 components", 6, () -> house.figure(house.join(0, 0, 2, 1), 1));
        BENCH.due("3 + 5 - 1 components", Bench.UNSUPPORTED, () -> house.join(0, 0, 3, 1));
        BENCH.due("no such visit, told first", Bench.INDEX, () -> house.join(0, 0, 3, 2));
        BENCH.due("nothing came", false, () -> house.drop(6));
    }

    /** "No act changes a DIAGRAM or BRAID: it makes a new one." */
    private static void nothingChanges() {
        KnotHouse house = new KnotHouse();
        Bench.diagram(house, Bench.HOPF + ";o3-u3-");
        String before = Bench.show(house, 0);
        house.mirror(0);
        house.reverse(0, 1);
        house.reverse(0, -1);
        house.change(0, 1);
        house.smooth(0, 2);
        house.join(0, 1, 0, 2);
        house.apart(0, house.simplify(0));
        house.moves(0, 3);
        house.moved(0);
        house.summands(0);
        house.summand(1);
        house.signature(0);
        house.chain(0, 2);
        house.conway(0, 1);
        BENCH.due("the diagram is as before", before, () -> Bench.show(house, 0));
    }
}
