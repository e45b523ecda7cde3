/** The edges that the document names in section 3 and in promises 18 to 23, each above its test. */
public final class MoveEdgeTest {
    private static final String EIGHT = "o1+u2-o3-u1+o4+u3-o2-u4+";
    private static final Bench BENCH = new Bench();

    public static void main(String[] args) {
        oneGoesOverTheEnd();
        oneComesToCircles();
        twoOfUnlikeSigns();
        twoOnlyIfBothAreBeside();
        twoComeToOneGap();
        twoComeToTwoParts();
        twoComeToSixCircles();
        threeDifferentCrossings();
        threeOverTheEnd();
        noMoreThanTwelve();
        kindsOfMoves();
        alikeOnesOnce();
        listIsEmptyAtFirst();
        listStays();
        listWithoutPlace();
        simplifyOfTheLeast();
        simplifyToTheBound();
        simplifyWithoutPlace();
        waysOfEachLength();
        waysOfFourCrossings();
        summandsOfCircles();
        summandsOfTwelve();
        summandsWithOthers();
        summandsStay();
        BENCH.finish();
    }

    private static String loops(int count) {
        StringBuilder text = new StringBuilder();
        for (int i = 1; i <= count; i++) {
            text.append('o').append(i).append("+u").append(i).append('+');
        }
        return text.toString();
    }

    /** "a CROSSING whose VISITS stand one behind the other goes": the last has the first behind it. */
    private static void oneGoesOverTheEnd() {
        BENCH.due("over the end of the row", "2 o0+u0+| o0-u0-|", () -> Bench.list("o1+u2-o2-u1+", 0));
        BENCH.due("over the end of the text", "2 o0+u0+| o0-u0-|", () -> Bench.list("u1+o2-u2-o1+", 0));
        BENCH.due("the last one", "1 |", () -> Bench.list("u1-o1-", 0));
        BENCH.due("beside circles", "1 ||||||", () -> Bench.list("u1-o1-;;;;;", 0));
        BENCH.due("of two components", "0", () -> Bench.list("o1+o2-;u1+u2-", 0));
        BENCH.due("none", "0", () -> Bench.list(";;", 0));
    }

    /** "both VISITS one behind the other in one GAP"; "a CIRCLE has one GAP, too". */
    private static void oneComesToCircles() {
        BENCH.due("a circle", "2 o0+u0+| o0-u0-|", () -> Bench.list("", 1));
        BENCH.due("six circles", "2 o0+u0+|||||| o0-u0-||||||", () -> Bench.list(";;;;;", 1));
        KnotHouse house = new KnotHouse();
        BENCH.due("gaps and a circle", 9, () -> house.moves(Bench.diagram(house, "o1+u1+;"), 1));
        BENCH.due("either one first, either sign", 8, () -> house.moves(Bench.diagram(house, Bench.HOPF), 1));
    }

    /** "two CROSSINGS of unlike SIGNS go". */
    private static void twoOfUnlikeSigns() {
        BENCH.due("unlike", "1 ||", () -> Bench.list("o1+o2-;u1+u2-", 2));
        BENCH.due("alike", "0", () -> Bench.list(Bench.HOPF, 2));
        BENCH.due("over the end of the row", "1 |", () -> Bench.list("o1+u1+u2-o2-", 2));
        BENCH.due("over the end of the row, alike", "0", () -> Bench.list("o1+u1+u2+o2+", 2));
        BENCH.due("none of one", "0", () -> Bench.list("o1+u1+", 2));
        BENCH.due("none of circles", "0", () -> Bench.list(";", 2));
    }

    /** "whose VISITS OVER stand one behind the other, and their VISITS UNDER, too". */
    private static void twoOnlyIfBothAreBeside() {
        // Those over of 3 and 1 stand so, and those under of 2 and 3, but no two do both.
        BENCH.due("one of both alone", "0", () -> Bench.list("o1+u1+o2+u2+u3-o3-", 2));
        BENCH.due("in either order", "1 |", () -> Bench.list("o1+o2-u2-u1+", 2));
        BENCH.due("in either order", "1 o0+u0+|", () -> Bench.list("o1+o2-o3+u1+u2-u3+", 2));
    }

    /** "(the same one, too: both wholly before or wholly behind those OVER)". */
    private static void twoComeToOneGap() {
        BENCH.due("a circle", "2 o0+u0+u1-o1-| o0+o1-u1-u0+|", () -> Bench.list("", 3));
        KnotHouse house = new KnotHouse();
        int d = Bench.diagram(house, Bench.TREFOIL);
        BENCH.due("to a trefoil", 12, () -> house.moves(d, 3));
        BENCH.due("before those over", true, () -> isListed(house, "u4-u5+o5+o4-" + Bench.TREFOIL));
        BENCH.due("behind those over", true, () -> isListed(house, "o4-o5+u5+u4-" + Bench.TREFOIL));
        BENCH.due("not one of them before", false, () -> isListed(house, "o4-u4-u5+o5+" + Bench.TREFOIL));
    }

    /** Whether a text's diagram is in the list. */
    private static boolean isListed(KnotHouse house, String text) {
        int d = Bench.diagram(house, text);
        boolean listed = false;
        for (int k = 0; k < 12; k++) {
            int made = house.moved(k);
            listed |= house.alike(d, made);
            house.drop(made);
        }
        house.drop(d);
        return listed;
    }

    /** "wherever that is PLANE (so GAPS of two PARTS may be taken; they are one PART then)". */
    private static void twoComeToTwoParts() {
        BENCH.due("two circles", "3 o0+u0+u1-o1-|| o0+o1-|u0+u1-| o0+o1-u1-u0+||", () -> Bench.list(";", 3));
        KnotHouse house = new KnotHouse();
        BENCH.due("a loop and a circle", 18, () -> house.moves(Bench.diagram(house, "o1+u1+;"), 3));
        int d = Bench.diagram(house, "o1+u1+;o2-u2-");
        BENCH.due("two loops", 48, () -> house.moves(d, 3));
        int[] parts = new int[3];
        for (int k = 0; k < 48; k++) {
            int made = house.moved(k);
            parts[house.figure(made, 3)]++;
            house.drop(made);
        }
        BENCH.due("they are one part then", 32, () -> parts[1]);
        BENCH.due("or two still", 16, () -> parts[2]);
        BENCH.due("a Hopf link, where that is plane", 10,
            () -> house.moves(Bench.diagram(house, Bench.HOPF), 3));
    }

    private static void twoComeToSixCircles() {
        BENCH.due("six circles", "3 o0+u0+u1-o1-|||||| o0+o1-|u0+u1-||||| o0+o1-u1-u0+||||||",
            () -> Bench.list(";;;;;", 3));
    }

    /** "where a FACE has three SIDES, its three CROSSINGS are different ones, and one SIDE has VISITS OVER at both ends". */
    private static void threeDifferentCrossings() {
        BENCH.due("three sides, two crossings", "0", () -> Bench.list("o1+u1+u2+o2+", 4));
        BENCH.due("no side over at both ends", "0", () -> Bench.list(Bench.TREFOIL, 4));
        BENCH.due("no side over at both ends", "0", () -> Bench.list(3, "aBa", 4));
        BENCH.due("one side over at both ends", "1 o0+o1+u2+u0+|u1+o2+|", () -> Bench.list(3, "aba", 4));
        BENCH.due("none of a circle", "0", () -> Bench.list("", 4));
    }

    private static void threeOverTheEnd() {
        BENCH.due("a side over the end of the row", "1 o0+o1-o2+u0+u1-u2+|",
            () -> Bench.list("o1+u1+o2+u2+u3-o3-", 4));
        BENCH.due("a side over the end of the row", "1 o0+o1-u2-u0+u1-o2-|",
            () -> Bench.list("o1+u1+u2-o2-u3-o3-", 4));
    }

    /** "Moves that would make more than 12 CROSSINGS are none." */
    private static void noMoreThanTwelve() {
        int[][] most = {{10, 1, 11}, {10, 3, 12}, {11, 1, 12}, {11, 3, 0}, {12, 1, 0}, {12, 3, 0}};
        for (int[] row : most) {
            KnotHouse house = new KnotHouse();
            int d = Bench.diagram(house, loops(row[0]));
            int count = house.moves(d, row[1]);
            BENCH.due("kind " + row[1] + " of " + row[0], row[2] > 0, () -> count > 0);
            if (count > 0) {
                BENCH.due("its crossings", row[2], () -> house.figure(house.moved(count - 1), 0));
            } else {
                BENCH.due("the list is empty", Bench.INDEX, () -> house.moved(0));
            }
        }
        KnotHouse house = new KnotHouse();
        int d = Bench.diagram(house, loops(12));
        BENCH.due("of twelve one goes", 1, () -> house.moves(d, 0));
        BENCH.due("eleven stay", 11, () -> house.figure(house.moved(0), 0));
    }

    /** "IndexOutOfBounds, IllegalArgument: kind." */
    private static void kindsOfMoves() {
        KnotHouse house = new KnotHouse();
        Bench.diagram(house, "o1+u1+");
        int[] counts = {1, 7, 0, 8, 0};
        for (int kind = 0; kind < 5; kind++) {
            int number = kind;
            BENCH.due("kind " + kind, counts[kind], () -> house.moves(0, number));
        }
        for (int kind : new int[] {-1, 5, Integer.MIN_VALUE, Integer.MAX_VALUE}) {
            BENCH.due("kind " + kind, Bench.ARGUMENT, () -> house.moves(0, kind));
            BENCH.due("the place is told first", Bench.INDEX, () -> house.moves(1, kind));
        }
    }

    /** "ALIKE ones once, the lesser first". */
    private static void alikeOnesOnce() {
        BENCH.due("each of three loops goes", "1 o0+u0+o1+u1+|", () -> Bench.list("o1+u1+o2+u2+o3+u3+", 0));
        BENCH.due("the lesser first", "3 o0+u0+o1-u1-| o0+u0+u1+o1+| o0+o1-u1-u0+|",
            () -> Bench.list("o1+u1+o2-u2-u3+o3+", 0));
    }

    /** "IndexOutOfBounds: none such". */
    private static void listIsEmptyAtFirst() {
        KnotHouse house = new KnotHouse();
        BENCH.due("no list yet", Bench.INDEX, () -> house.moved(0));
        Bench.diagram(house, "");
        house.moves(0, 1);
        BENCH.due("the first", 1, () -> house.moved(0));
        BENCH.due("the last", 2, () -> house.moved(1));
        for (int k : new int[] {-1, 2, Integer.MIN_VALUE, Integer.MAX_VALUE}) {
            BENCH.due("moved " + k, Bench.INDEX, () -> house.moved(k));
        }
        house.moves(0, 0);
        BENCH.due("the list is empty again", Bench.INDEX, () -> house.moved(0));
    }

    /** "(0 the first; it stays, whatever is dropped)". */
    private static void listStays() {
        KnotHouse house = new KnotHouse();
        Bench.diagram(house, "");
        Bench.diagram(house, "o1+u1+");
        house.moves(0, 1);
        house.way(0, 1);
        house.simplify(1);
        house.summands(1);
        for (int d = 0; d < 40; d++) {
            house.drop(d);
        }
        BENCH.due("a refused call", Bench.INDEX, () -> house.moves(0, 3));
        BENCH.due("the second", "o0-u0-|", () -> Bench.show(house, house.moved(1)));
        BENCH.due("a refused call", Bench.ARGUMENT, () -> house.moves(0, 5));
        BENCH.due("the first", "o0+u0+|", () -> Bench.show(house, house.moved(0)));
        BENCH.due("once more", "o0+u0+|", () -> Bench.show(house, house.moved(0)));
    }

    /** "IndexOutOfBounds: none such, IllegalState." */
    private static void listWithoutPlace() {
        KnotHouse house = new KnotHouse();
        Bench.diagram(house, "");
        house.moves(0, 1);
        Bench.fillDiagrams(house);
        BENCH.due("none such, told first", Bench.INDEX, () -> house.moved(2));
        BENCH.due("no place", Bench.STATE, () -> house.moved(1));
        house.drop(39);
        BENCH.due("the last place", 39, () -> house.moved(1));
    }

    /** "(itself, too; ALIKE ones are one) the least". */
    private static void simplifyOfTheLeast() {
        KnotHouse house = new KnotHouse();
        Bench.diagram(house, "");
        BENCH.due("of a circle a new place", 1, () -> house.simplify(0));
        BENCH.due("itself", true, () -> house.alike(0, 1));
        Bench.diagram(house, loops(12));
        BENCH.due("of twelve loops", "|", () -> Bench.show(house, house.simplify(2)));
        Bench.diagram(house, EIGHT);
        BENCH.due("of what no move goes from", true, () -> house.alike(4, house.simplify(4)));
        for (int place : new int[] {-1, 6, 40, Integer.MIN_VALUE, Integer.MAX_VALUE}) {
            BENCH.due("simplify " + place, Bench.INDEX, () -> house.simplify(place));
        }
    }

    /** "OPEN, if there are more than 300." */
    private static void simplifyToTheBound() {
        KnotHouse house = new KnotHouse();
        int most = Bench.closure(house, 4, "bBccAaCA");
        int open = Bench.closure(house, 4, "BAbAaBabB");
        BENCH.due("300", "||", () -> Bench.show(house, house.simplify(most)));
        BENCH.due("301", KnotHouse.OPEN, () -> house.simplify(open));
        BENCH.due("nothing came", false, () -> house.drop(3));
    }

    /** "IndexOutOfBounds, IllegalState (ahead of OPEN)." */
    private static void simplifyWithoutPlace() {
        KnotHouse house = new KnotHouse();
        int open = Bench.closure(house, 4, "BAbAaBabB");
        Bench.fillDiagrams(house);
        BENCH.due("ahead of OPEN", Bench.STATE, () -> house.simplify(open));
        BENCH.due("no such place, told first", Bench.INDEX, () -> house.simplify(40));
        BENCH.due("no such place, told first", Bench.INDEX, () -> house.simplify(-1));
        house.drop(39);
        BENCH.due("OPEN", KnotHouse.OPEN, () -> house.simplify(open));
        BENCH.due("the place is free still", false, () -> house.drop(39));
    }

    private static int way(String from, String to) {
        KnotHouse house = new KnotHouse();
        Bench.diagram(house, from);
        Bench.diagram(house, to);
        return house.way(0, 1);
    }

    /** "0, 1 or 2 at least; NONE: more." */
    private static void waysOfEachLength() {
        for (int count = 0; count <= 4; count++) {
            String to = loops(count);
            BENCH.due("to " + count + " loops", count > 2 ? KnotHouse.NONE : count, () -> way("", to));
            BENCH.due("from " + count + " loops", count > 2 ? KnotHouse.NONE : count, () -> way(to, ""));
        }
        BENCH.due("one twice", 0, () -> {
            KnotHouse house = new KnotHouse();
            return house.way(Bench.diagram(house, EIGHT), 0);
        });
        BENCH.due("through more crossings", 2, () -> way("o1+u1+", "o1-u1-"));
        BENCH.due("of two of six circles", 2, () -> way(";;;;;", "o1+u1+;o2+u2+;;;;"));
        BENCH.due("of three of six circles", KnotHouse.NONE, () -> way(";;;;;", "o1+u1+;o2+u2+;o3+u3+;;;"));
    }

    /** "UnsupportedOperation: one has more than 4 CROSSINGS." */
    private static void waysOfFourCrossings() {
        BENCH.due("from two to four", 2, () -> way(loops(2), loops(4)));
        BENCH.due("from four to two", 2, () -> way(loops(4), loops(2)));
        BENCH.due("from three to four", 1, () -> way(loops(3), loops(4)));
        BENCH.due("from four to five", Bench.UNSUPPORTED, () -> way(loops(4), loops(5)));
        BENCH.due("from five to four", Bench.UNSUPPORTED, () -> way(loops(5), loops(4)));
        BENCH.due("from five to the same", Bench.UNSUPPORTED, () -> way(loops(5), loops(5)));
        KnotHouse house = new KnotHouse();
        Bench.diagram(house, loops(12));
        for (int place : new int[] {-1, 1, 40, Integer.MIN_VALUE, Integer.MAX_VALUE}) {
            BENCH.due("no such place, told first", Bench.INDEX, () -> house.way(0, place));
            BENCH.due("no such place, told first", Bench.INDEX, () -> house.way(place, 0));
        }
    }

    /** "CIRCLES are none." */
    private static void summandsOfCircles() {
        KnotHouse house = new KnotHouse();
        BENCH.due("no summands yet", Bench.INDEX, () -> house.summand(0));
        Bench.diagram(house, ";;;;;");
        BENCH.due("of six circles", 0, () -> house.summands(0));
        BENCH.due("none", Bench.INDEX, () -> house.summand(0));
        Bench.diagram(house, "o1+u1+;;");
        BENCH.due("beside circles", 1, () -> house.summands(1));
        BENCH.due("without the circles", "o0+u0+|", () -> Bench.show(house, house.summand(0)));
        for (int place : new int[] {-1, 3, 40, Integer.MIN_VALUE, Integer.MAX_VALUE}) {
            BENCH.due("summands of " + place, Bench.INDEX, () -> house.summands(place));
        }
    }

    /** "ALIKE ones count each": as many as there can be. */
    private static void summandsOfTwelve() {
        KnotHouse house = new KnotHouse();
        Bench.diagram(house, loops(12));
        BENCH.due("twelve", 12, () -> house.summands(0));
        BENCH.due("the first", "o0+u0+|", () -> Bench.show(house, house.summand(0)));
        BENCH.due("the last", "o0+u0+|", () -> Bench.show(house, house.summand(11)));
        for (int k : new int[] {-1, 12, Integer.MIN_VALUE, Integer.MAX_VALUE}) {
            BENCH.due("summand " + k, Bench.INDEX, () -> house.summand(k));
        }
    }

    /** "A PART that cannot be parted is one itself"; "(other COMPONENTS go with those that they cross)". */
    private static void summandsWithOthers() {
        KnotHouse house = new KnotHouse();
        Bench.diagram(house, Bench.HOPF);
        BENCH.due("a Hopf link", 1, () -> house.summands(0));
        BENCH.due("is one itself", true, () -> house.alike(0, house.summand(0)));
        BENCH.due("four components in a row", 3, () -> house.summands(Bench.closure(house, 4, "aabbcc")));
        for (int i = 0; i < 3; i++) {
            int k = i;
            BENCH.due("a Hopf link each", true, () -> house.alike(0, house.summand(k)));
        }
        BENCH.due("the lesser first", 3, () -> house.summands(Bench.diagram(house, Bench.TREFOIL + "o4-u4-;o5+u5+")));
        BENCH.due("a loop with +", "o0+u0+|", () -> Bench.show(house, house.summand(0)));
        BENCH.due("a loop with -", "o0-u0-|", () -> Bench.show(house, house.summand(1)));
        BENCH.due("a trefoil", "o0+u1+o2+u0+o1+u2+|", () -> Bench.show(house, house.summand(2)));
    }

    /** "The k-th of THE SUMMANDS found latest (they stay likewise)"; "IndexOutOfBounds: none such, IllegalState." */
    private static void summandsStay() {
        KnotHouse house = new KnotHouse();
        Bench.diagram(house, "o1+u1+o2-u2-");
        house.summands(0);
        house.moves(0, 1);
        house.drop(0);
        BENCH.due("a refused call", Bench.INDEX, () -> house.summands(0));
        BENCH.due("the second", "o0-u0-|", () -> Bench.show(house, house.summand(1)));
        Bench.fillDiagrams(house);
        BENCH.due("none such, told first", Bench.INDEX, () -> house.summand(2));
        BENCH.due("no place", Bench.STATE, () -> house.summand(1));
        house.drop(39);
        BENCH.due("the last place", 39, () -> house.summand(1));
        house.drop(39);
        Bench.diagram(house, Bench.TREFOIL);
        house.summands(39);
        BENCH.due("those found before are gone", Bench.INDEX, () -> house.summand(1));
    }
}
