/**
 * "EXCEPTIONS are thrown in the order in which a call names them: the first that is so. .. Nothing changes then." Each
 * refused call is made on a house of its own, which must be as one on which it was not made.
 */
public final class RefusalTest {
    private static final Bench BENCH = new Bench();
    private static final String FULL = state(house(true));
    private static final String ROOMY = state(house(false));

    public static void main(String[] args) {
        fullTape();
        texts();
        figures();
        newDiagrams();
        moves();
        numbers();
        newBraids();
        formsOfBraids();
        BENCH.finish();
    }

    /** A call on a house of the test's own. */
    private interface Act {
        Object on(KnotHouse house);
    }

    /**
     * Diagrams: a trefoil, a loop with five circles, twelve crossings, a circle, two loops. Braids: two of two strands,
     * one of three, one of five, one of thirteen letters. Two are in the list, two are summands, and the tape has a loop.
     */
    private static KnotHouse house(boolean full) {
        KnotHouse house = new KnotHouse();
        Bench.diagram(house, Bench.TREFOIL);
        Bench.diagram(house, "o1+u1+;;;;;");
        Bench.closure(house, 2, "aaaaaaaaaaaa");
        Bench.diagram(house, "");
        Bench.diagram(house, "o1+u1+o2-u2-");
        Bench.braid(house, 2, "aa");
        Bench.braid(house, 2, "A");
        Bench.braid(house, 3, "ab");
        Bench.braid(house, 5, "d");
        Bench.braid(house, 2, "aaaaaaaaaaaaa");
        house.moves(3, 1);
        house.summands(4);
        house.chain(0, 2);
        for (int i = 5; i < 40 && full; i++) {
            house.mirror(3);
        }
        for (int i = 5; i < 20 && full; i++) {
            house.inverse(0);
        }
        Bench.feed(house, "o1+u1+");
        return house;
    }

    /** All that can be seen of a house; looking changes it. */
    private static String state(KnotHouse house) {
        StringBuilder all = new StringBuilder();
        for (int d = 0; d < 40; d++) {
            if (house.alike(d, d)) {
                all.append(d).append(':').append(house.figure(d, 0)).append(',').append(house.figure(d, 1));
                all.append(',').append(house.figure(d, 4)).append(' ');
            }
        }
        for (int b = 0; b < 20; b++) {
            if (house.equal(b, b)) {
                all.append(b).append(':').append(house.normal(b, 0)).append(',').append(house.normal(b, 2));
                all.append(',').append(house.normal(b, 3)).append(' ');
            }
        }
        all.append(house.rank(0, 1)).append(house.rank(3, 7)).append(house.rank(3, 9)).append(house.rank(0, -1));
        house.drop(39);
        all.append(' ').append(taken(house, house.diagram()));
        for (int k = 0; k < 2; k++) {
            all.append(' ').append(taken(house, house.moved(k)));
            all.append(' ').append(taken(house, house.summand(k)));
        }
        return all.toString();
    }

    /** The place and the code of what was made; it is dropped. */
    private static String taken(KnotHouse house, int d) {
        String text = d + Bench.show(house, d);
        house.drop(d);
        return text;
    }

    private static void refused(String what, boolean full, String by, Act act) {
        KnotHouse house = house(full);
        BENCH.due(what, by, () -> act.on(house));
        BENCH.due("the house behind " + what, full ? FULL : ROOMY, () -> state(house));
    }

    private static void full(String what, String by, Act act) {
        refused(what, true, by, act);
    }

    private static void roomy(String what, String by, Act act) {
        refused(what, false, by, act);
    }

    /** In a house with places, and in one without: what is told ahead of IllegalState. */
    private static void both(String what, String by, Act act) {
        roomy(what, by, act);
        full(what + ", no place", by, act);
    }

    private static void fullTape() {
        KnotHouse house = new KnotHouse();
        Bench.feed(house, "aAaA");
        for (int i = 0; i < 19; i++) {
            house.feed(0, 0, 0, 0, 0);
        }
        BENCH.due("feed", Bench.STATE, () -> house.feed(0x61616161, 0, 0, 0, 0));
        BENCH.due("the tape has as many", Bench.ARGUMENT, () -> Bench.end(house, 385));
        BENCH.due("the tape has as many", Bench.NOTHING, () -> Bench.end(house, 384));
        BENCH.due("and is the same", -5, () -> house.braid(2));
    }

    private static void texts() {
        both("end(-1)", Bench.ARGUMENT, house -> Bench.end(house, -1));
        both("end(7)", Bench.ARGUMENT, house -> Bench.end(house, 7));
        full("diagram()", Bench.STATE, KnotHouse::diagram);
        full("braid(2)", Bench.STATE, house -> house.braid(2));
        both("braid(1)", Bench.ARGUMENT, house -> house.braid(1));
        both("braid(6)", Bench.ARGUMENT, house -> house.braid(6));
        both("drop(40)", "false", house -> house.drop(40));
        both("dropBraid(20)", "false", house -> house.dropBraid(20));
    }

    private static void figures() {
        roomy("figure of none", Bench.INDEX, house -> house.figure(5, 6));
        both("figure 6", Bench.ARGUMENT, house -> house.figure(0, 6));
        roomy("visit of none", Bench.INDEX, house -> house.visit(5, 0, 4));
        both("visit 6", Bench.INDEX, house -> house.visit(0, 6, 4));
        both("visit, 4", Bench.ARGUMENT, house -> house.visit(0, 0, 4));
        roomy("linking of none", Bench.INDEX, house -> house.linking(5, 0, 0));
        both("linking of no such", Bench.INDEX, house -> house.linking(0, 1, 1));
        both("linking of one", Bench.ARGUMENT, house -> house.linking(1, 5, 5));
    }

    private static void newDiagrams() {
        both("mirror of none", Bench.INDEX, house -> house.mirror(40));
        full("mirror", Bench.STATE, house -> house.mirror(0));
        both("reverse of none", Bench.INDEX, house -> house.reverse(40, 0));
        both("reverse of no such", Bench.INDEX, house -> house.reverse(0, 1));
        full("reverse", Bench.STATE, house -> house.reverse(0, -1));
        both("change of none", Bench.INDEX, house -> house.change(40, 0));
        both("change of no such", Bench.INDEX, house -> house.change(0, 3));
        full("change", Bench.STATE, house -> house.change(0, 0));
        both("smooth of none", Bench.INDEX, house -> house.smooth(40, 0));
        both("smooth of no such", Bench.INDEX, house -> house.smooth(1, 1));
        both("smooth to seven", Bench.UNSUPPORTED, house -> house.smooth(1, 0));
        full("smooth", Bench.STATE, house -> house.smooth(0, 0));
        both("apart of none", Bench.INDEX, house -> house.apart(40, 1));
        both("apart with none", Bench.INDEX, house -> house.apart(2, 40));
        both("apart of 15 crossings", Bench.UNSUPPORTED, house -> house.apart(0, 2));
        both("apart of 7 components", Bench.UNSUPPORTED, house -> house.apart(1, 3));
        full("apart", Bench.STATE, house -> house.apart(0, 0));
        both("join of none", Bench.INDEX, house -> house.join(40, 0, 2, 0));
        both("join with none", Bench.INDEX, house -> house.join(2, 0, 40, 0));
        both("join of no such", Bench.INDEX, house -> house.join(2, 24, 2, 0));
        both("join with no such", Bench.INDEX, house -> house.join(2, 0, 2, -1));
        both("join of 24 crossings", Bench.UNSUPPORTED, house -> house.join(2, 0, 2, 0));
        both("join of 11 components", Bench.UNSUPPORTED, house -> house.join(1, 0, 1, 0));
        full("join", Bench.STATE, house -> house.join(0, 0, 1, 0));
    }

    private static void moves() {
        roomy("moves of none", Bench.INDEX, house -> house.moves(5, 5));
        both("moves of kind 5", Bench.ARGUMENT, house -> house.moves(0, 5));
        both("moves of kind -1", Bench.ARGUMENT, house -> house.moves(0, -1));
        both("moved of none", Bench.INDEX, house -> house.moved(2));
        full("moved", Bench.STATE, house -> house.moved(0));
        both("simplify of none", Bench.INDEX, house -> house.simplify(40));
        full("simplify", Bench.STATE, house -> house.simplify(0));
        roomy("way of none", Bench.INDEX, house -> house.way(2, 5));
        both("way of twelve crossings", Bench.UNSUPPORTED, house -> house.way(2, 3));
        both("way to twelve crossings", Bench.UNSUPPORTED, house -> house.way(3, 2));
        roomy("summands of none", Bench.INDEX, house -> house.summands(5));
        both("summand of none", Bench.INDEX, house -> house.summand(2));
        full("summand", Bench.STATE, house -> house.summand(0));
    }

    private static void numbers() {
        roomy("conway of none", Bench.INDEX, house -> house.conway(5, 0));
        roomy("jones of none", Bench.INDEX, house -> house.jones(5, 0));
        roomy("signature of none", Bench.INDEX, house -> house.signature(5));
        roomy("cover of none", Bench.INDEX, house -> house.cover(5, 0));
        roomy("colours of none", Bench.INDEX, house -> house.colours(5, 0));
        both("colours modulo 0", Bench.ARGUMENT, house -> house.colours(0, 0));
        both("colours modulo 101", Bench.ARGUMENT, house -> house.colours(0, 101));
        roomy("maps of none", Bench.INDEX, house -> house.maps(5, 0));
        both("maps into none", Bench.ARGUMENT, house -> house.maps(2, 0));
        both("maps of twelve crossings", Bench.UNSUPPORTED, house -> house.maps(2, 1));
        both("maps of six components", Bench.UNSUPPORTED, house -> house.maps(1, 1));
        roomy("chain of none", Bench.INDEX, house -> house.chain(5, 1));
        both("chain over 4", Bench.ARGUMENT, house -> house.chain(2, 4));
        both("chain of twelve crossings", Bench.UNSUPPORTED, house -> house.chain(2, 3));
    }

    private static void newBraids() {
        both("closure of none", Bench.INDEX, house -> house.closure(20));
        both("closure of thirteen letters", Bench.UNSUPPORTED, house -> house.closure(4));
        full("closure", Bench.STATE, house -> house.closure(0));
        both("product of none", Bench.INDEX, house -> house.product(20, 4));
        both("product with none", Bench.INDEX, house -> house.product(4, 20));
        both("product of other strands", Bench.ARGUMENT, house -> house.product(4, 2));
        both("product of 26 letters", Bench.UNSUPPORTED, house -> house.product(4, 4));
        full("product", Bench.STATE, house -> house.product(0, 1));
        both("inverse of none", Bench.INDEX, house -> house.inverse(20));
        full("inverse", Bench.STATE, house -> house.inverse(0));
    }

    private static void formsOfBraids() {
        roomy("normal of none", Bench.INDEX, house -> house.normal(5, 4));
        both("normal 4", Bench.ARGUMENT, house -> house.normal(0, 4));
        roomy("factor of none", Bench.INDEX, house -> house.factor(5, 0, 0));
        roomy("summit of none", Bench.INDEX, house -> house.summit(5));
        both("summit of five strands", Bench.UNSUPPORTED, house -> house.summit(3));
        roomy("conjugate to none", Bench.INDEX, house -> house.conjugate(3, 5));
        both("conjugate of other strands", Bench.ARGUMENT, house -> house.conjugate(2, 3));
        both("conjugate of five strands", Bench.UNSUPPORTED, house -> house.conjugate(3, 3));
        roomy("two of none", Bench.INDEX, house -> house.two(5, 0, 0));
        both("two of thirteen letters", Bench.UNSUPPORTED, house -> house.two(4, 0, 0));
    }
}
