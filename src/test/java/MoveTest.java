/** Promises 18 to 23: moves, moved, simplify, way, summands, summand. */
public final class MoveTest {
    private static final int[] NO_PLACES = {-1, 40, 30, Integer.MIN_VALUE, Integer.MAX_VALUE};
    private static final int[] NO_NUMBERS = {-1, 9999, Integer.MIN_VALUE, Integer.MAX_VALUE};
    private static final Bench BENCH = new Bench();

    public static void main(String[] args) {
        oneGoesOrComes();
        twoGo();
        twoCome();
        threePass();
        limits();
        listStays();
        simplifies();
        simplifyOpen();
        ways();
        summandsOf();
        exceptions();
        BENCH.finish();
    }

    private static void oneGoesOrComes() {
        BENCH.due("one goes", "1 |", () -> Bench.list("o1+u1+", 0));
        BENCH.due("one of two goes", "2 o0+u0+| o0-u0-|", () -> Bench.list("o1+u1+u2-o2-", 0));
        BENCH.due("none goes", "0", () -> Bench.list(Bench.TREFOIL, 0));
        BENCH.due("none goes of a circle", "0", () -> Bench.list("", 0));
        BENCH.due("one comes to a circle", "2 o0+u0+| o0-u0-|", () -> Bench.list("", 1));
        BENCH.due("one comes to one of two circles", "2 o0+u0+|| o0-u0-||", () -> Bench.list(";", 1));
        BENCH.due("one comes", "7 o0+u0+o1+u1+| o0+u0+o1-u1-| o0+u0+u1+o1+| o0+u0+u1-o1-|"
            + " o0+o1-u1-u0+| o0+u1+o1+u0+| o0+u1-o1-u0+|", () -> Bench.list("o1+u1+", 1));
    }

    private static void twoGo() {
        BENCH.due("of two components", "1 ||", () -> Bench.list("o1+o2-;u1+u2-", 2));
        BENCH.due("of one", "1 |", () -> Bench.list("o1+o2-u2-u1+", 2));
        BENCH.due("of one, in the other order", "1 o0+u0+|", () -> Bench.list("o1+o2-o3+u1+u2-u3+", 2));
        BENCH.due("round the end of the row", "1 |", () -> Bench.list("o1+u1+u2-o2-", 2));
        BENCH.due("like signs", "0", () -> Bench.list("o1+u2+;u1+o2+", 2));
        BENCH.due("beside others", "1 o0+u0+||", () -> Bench.list(3, "abA", 2));
    }

    private static void twoCome() {
        BENCH.due("to a circle", "2 o0+u0+u1-o1-| o0+o1-u1-u0+|", () -> Bench.list("", 3));
        BENCH.due("to two circles", "3 o0+u0+u1-o1-|| o0+o1-|u0+u1-| o0+o1-u1-u0+||", () -> Bench.list(";", 3));
        BENCH.due("to a loop", "8 o0+u0+o1+o2-u2-u1+| o0+u0+o1-o2+u2+u1-| o0+u0+u1+u2-o2-o1+| o0+u0+u1-u2+o2+o1-|"
            + " o0+o1+o2-u2-u1+u0+| o0+o1-o2+u0+u1-u2+| o0+o1-u2+o2+u1-u0+| o0+u1+o1+u0+u2-o2-|",
            () -> Bench.list("o1+u1+", 3));
        KnotHouse house = new KnotHouse();
        int d = Bench.diagram(house, Bench.HOPF);
        BENCH.due("to a Hopf link", 10, () -> house.moves(d, 3));
        BENCH.due("to two parts", 1, () -> {
            int parted = Bench.diagram(house, "o1+u1+;o2-u2-");
            int joined = 0;
            for (int k = house.moves(parted, 3) - 1; k >= 0; k--) {
                int made = house.moved(k);
                joined = Math.max(joined, 2 - house.figure(made, 3));
                house.drop(made);
            }
            return joined;
        });
    }

    private static void threePass() {
        BENCH.due("three", "1 o0+o1+u2+u0+|u1+o2+|", () -> Bench.list(3, "aba", 4));
        BENCH.due("with a capital", "1 o0+o1+o2-u0+|u1+u2-|", () -> Bench.list(3, "abA", 4));
        BENCH.due("three faces", "3 o0+u0+o1-o2+u3+u1-u2+o3+| o0+u0+u1+o2+o3-o1+u2+u3-| o0+o1+o2-o3+u1+u2-u3+u0+|",
            () -> Bench.list(3, "abaB", 4));
        BENCH.due("no side over at both ends", "0", () -> Bench.list(3, "aBa", 4));
        BENCH.due("a trefoil", "0", () -> Bench.list(Bench.TREFOIL, 4));
    }

    private static void limits() {
        KnotHouse house = new KnotHouse();
        int twelve = Bench.closure(house, 2, "aaaaaaaaaaaa");
        int eleven = Bench.closure(house, 2, "aaaaaaaaaaa");
        int ten = Bench.closure(house, 2, "aaaaaaaaaa");
        BENCH.due("a 13th comes", 0, () -> house.moves(twelve, 1));
        BENCH.due("two come to twelve", 0, () -> house.moves(twelve, 3));
        BENCH.due("two come to eleven", 0, () -> house.moves(eleven, 3));
        BENCH.due("a 12th comes", true, () -> house.moves(eleven, 1) > 0);
        BENCH.due("a 12th has come", 12, () -> house.figure(house.moved(0), 0));
        BENCH.due("two come to ten", true, () -> house.moves(ten, 3) > 0);
        BENCH.due("two have come", 12, () -> house.figure(house.moved(0), 0));
    }

    private static void listStays() {
        KnotHouse house = new KnotHouse();
        int d = Bench.diagram(house, "");
        BENCH.due("two", 2, () -> house.moves(d, 1));
        house.drop(d);
        BENCH.due("kind 5 changes nothing", Bench.INDEX, () -> house.moves(d, 0));
        BENCH.due("the second", "o0-u0-|", () -> Bench.show(house, house.moved(1)));
        BENCH.due("the first", "o0+u0+|", () -> Bench.show(house, house.moved(0)));
        BENCH.due("no third", Bench.INDEX, () -> house.moved(2));
        for (int k : NO_NUMBERS) {
            BENCH.due("moved " + k, Bench.INDEX, () -> house.moved(k));
        }
        BENCH.due("wrong kind", Bench.ARGUMENT, () -> house.moves(0, 5));
        BENCH.due("the list is as before", "o0-u0-|", () -> Bench.show(house, house.moved(1)));
        BENCH.due("none", 0, () -> house.moves(Bench.diagram(house, ""), 0));
        BENCH.due("the list is empty", Bench.INDEX, () -> house.moved(0));
    }

    private static String simplest(int strands, String word) {
        KnotHouse house = new KnotHouse();
        int d = house.simplify(Bench.closure(house, strands, word));
        return d < 0 ? String.valueOf(d) : Bench.show(house, d);
    }

    private static void simplifies() {
        BENCH.due("a circle", "|", () -> simplest(2, "a"));
        BENCH.due("two circles", "||", () -> simplest(2, "aA"));
        BENCH.due("a trefoil", "o0+u1+o2+u0+o1+u2+|", () -> simplest(2, "aaa"));
        BENCH.due("by a pass of three", "o0+u1+o2+u0+o1+u2+|", () -> simplest(3, "abaBaa"));
        BENCH.due("a Hopf link and more", "o0+u1+|u0+o1+|", () -> simplest(3, "aaBbB"));
        BENCH.due("long, of circles", "|", () -> simplest(4, "abC"));
        KnotHouse house = new KnotHouse();
        Bench.closure(house, 2, "aaa");
        BENCH.due("a new place", 1, () -> house.simplify(0));
        BENCH.due("of what cannot go", true, () -> house.alike(0, 1));
    }

    private static void simplifyOpen() {
        KnotHouse house = new KnotHouse();
        int d = Bench.closure(house, 4, "abcABCabcABC");
        BENCH.due("more than 300", KnotHouse.OPEN, () -> house.simplify(d));
        BENCH.due("nothing came", false, () -> house.drop(1));
        Bench.fillDiagrams(house);
        BENCH.due("no place, ahead of OPEN", Bench.STATE, () -> house.simplify(d));
    }

    private static int way(String from, String to) {
        KnotHouse house = new KnotHouse();
        Bench.diagram(house, from);
        Bench.diagram(house, to);
        return house.way(0, 1);
    }

    private static void ways() {
        BENCH.due("itself", 0, () -> way(Bench.TREFOIL, "u3+o1+u2+o3+u1+o2+"));
        BENCH.due("a loop", 1, () -> way("", "o1+u1+"));
        BENCH.due("a loop goes", 1, () -> way("o1+u1+", ""));
        BENCH.due("two come", 1, () -> way(";", "o1+o2-;u1+u2-"));
        BENCH.due("a loop for another", 2, () -> way("o1+u1+", "o1-u1-"));
        BENCH.due("two loops", 2, () -> way("", "o1+u1+o2+u2+"));
        BENCH.due("other components", KnotHouse.NONE, () -> way("", ";"));
        BENCH.due("three loops", KnotHouse.NONE, () -> way("", "o1+u1+o2+u2+o3+u3+"));
        BENCH.due("another knot", KnotHouse.NONE, () -> way("", Bench.TREFOIL));
        BENCH.due("two twice", 2, () -> way("", "o1+o2-u2-u1+o3+o4-u4-u3+"));
        BENCH.due("each between the other two", KnotHouse.NONE, () -> way("", "o1+u1+u2-o2-o3+u3+u4-o4-"));
        KnotHouse house = new KnotHouse();
        Bench.closure(house, 3, "aba");
        Bench.closure(house, 3, "bab");
        BENCH.due("a pass of three", 1, () -> house.way(0, house.moves(0, 4) == 1 ? house.moved(0) : 0));
        Bench.closure(house, 2, "aaaaa");
        Bench.closure(house, 2, "aaaa");
        BENCH.due("four crossings", 0, () -> house.way(4, 4));
        BENCH.due("five crossings", Bench.UNSUPPORTED, () -> house.way(3, 4));
        BENCH.due("five crossings", Bench.UNSUPPORTED, () -> house.way(4, 3));
        for (int place : NO_PLACES) {
            BENCH.due("way from " + place, Bench.INDEX, () -> house.way(place, 3));
            BENCH.due("way to " + place, Bench.INDEX, () -> house.way(3, place));
        }
    }

    private static void summandsOf() {
        KnotHouse house = new KnotHouse();
        int trefoil = Bench.diagram(house, Bench.TREFOIL);
        int eight = Bench.closure(house, 3, "aBaB");
        int both = house.join(eight, 3, trefoil, 2);
        int more = house.apart(house.join(both, 0, trefoil, 0), Bench.diagram(house, Bench.HOPF + ";"));
        BENCH.due("one", 1, () -> house.summands(trefoil));
        BENCH.due("is itself", true, () -> house.alike(trefoil, house.summand(0)));
        BENCH.due("two", 2, () -> house.summands(both));
        BENCH.due("the lesser", true, () -> house.alike(trefoil, house.summand(0)));
        BENCH.due("the greater", true, () -> house.alike(eight, house.summand(1)));
        BENCH.due("four, alike ones each", 4, () -> house.summands(more));
        BENCH.due("a Hopf link", "o0+u1+|u0+o1+|", () -> Bench.show(house, house.summand(0)));
        house.drop(more);
        BENCH.due("they stay", true, () -> house.alike(trefoil, house.summand(2)));
        BENCH.due("the last", true, () -> house.alike(eight, house.summand(3)));
        BENCH.due("no fifth", Bench.INDEX, () -> house.summand(4));
        for (int k : NO_NUMBERS) {
            BENCH.due("summand " + k, Bench.INDEX, () -> house.summand(k));
        }
        BENCH.due("circles", 0, () -> house.summands(Bench.diagram(house, ";;")));
        BENCH.due("none", Bench.INDEX, () -> house.summand(0));
        BENCH.due("loops", 3, () -> house.summands(Bench.diagram(house, "o1+u1+u2-o2-o3+u3+")));
        BENCH.due("a loop with +", "o0+u0+|", () -> Bench.show(house, house.summand(0)));
        BENCH.due("a loop with -", "o0-u0-|", () -> Bench.show(house, house.summand(2)));
        BENCH.due("a chain of three components", 2, () -> house.summands(Bench.closure(house, 3, "aabb")));
        BENCH.due("that cannot be parted", 1, () -> house.summands(Bench.closure(house, 3, "aabbaabb")));
    }

    private static void exceptions() {
        KnotHouse house = new KnotHouse();
        Bench.diagram(house, Bench.TREFOIL);
        for (int kind : new int[] {-1, 5, Integer.MIN_VALUE, Integer.MAX_VALUE}) {
            BENCH.due("kind " + kind, Bench.ARGUMENT, () -> house.moves(0, kind));
        }
        for (int place : NO_PLACES) {
            BENCH.due("moves of " + place, Bench.INDEX, () -> house.moves(place, 0));
            BENCH.due("moves of " + place + ", the place first", Bench.INDEX, () -> house.moves(place, 5));
            BENCH.due("simplify " + place, Bench.INDEX, () -> house.simplify(place));
            BENCH.due("summands of " + place, Bench.INDEX, () -> house.summands(place));
        }
        house.moves(0, 1);
        house.summands(0);
        Bench.fillDiagrams(house);
        BENCH.due("moved without place", Bench.STATE, () -> house.moved(0));
        BENCH.due("moved of none", Bench.INDEX, () -> house.moved(8));
        BENCH.due("summand without place", Bench.STATE, () -> house.summand(0));
        BENCH.due("summand of none", Bench.INDEX, () -> house.summand(1));
        BENCH.due("simplify without place", Bench.STATE, () -> house.simplify(0));
        BENCH.due("moves need no place", 8, () -> house.moves(0, 1));
        BENCH.due("summands need no place", 1, () -> house.summands(0));
    }
}
