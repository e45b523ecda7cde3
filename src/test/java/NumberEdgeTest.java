/** The edges that the document names in section 4 and in promises 24 to 31, each above its test. */
public final class NumberEdgeTest {
    private static final int[] NO_PLACES = {-1, 39, 40, Integer.MIN_VALUE, Integer.MAX_VALUE};
    private static final String TWELVE = "aaaaaaaaaaaa";
    private static final Bench BENCH = new Bench();

    public static void main(String[] args) {
        beyondSixComponents();
        conwayOfCircles();
        conwayAtOtherPowers();
        jonesOfCircles();
        jonesAtOtherPowers();
        signatureOfCircles();
        signatureOfParts();
        coverByNumber();
        coverWithZeros();
        componentsWithoutUnder();
        coloursToTheBounds();
        mapsToTheBounds();
        mapsOfSevenAndFour();
        chainOfPrimes();
        chainOfNine();
        chainOfCircles();
        rankWithout();
        rankOfTheLatest();
        rankAtOthers();
        noPlaces();
        BENCH.finish();
    }

    private static KnotHouse with(String text) {
        KnotHouse house = new KnotHouse();
        Bench.diagram(house, text);
        return house;
    }

    private static KnotHouse withClosure(int strands, String word) {
        KnotHouse house = new KnotHouse();
        Bench.closure(house, strands, word);
        return house;
    }

    /** "Functions are of all DIAGRAMS, also beyond 6 COMPONENTS": what is smoothed, and states, may have more. */
    private static void beyondSixComponents() {
        String loops = "o1+u1+o2+u2+o3+u3+o4-u4-o5-u5-o6-u6-u7+o7+u8+o8+u9+o9+u10-o10-u11-o11-u12-o12-";
        BENCH.due("twelve loops, C", 1, () -> with(loops).conway(0, 0));
        BENCH.due("twelve loops, J", 1, () -> with(loops).jones(0, 0));
        KnotHouse house = with(loops + ";;;;;");
        int[] six = {-1, -5, -10, -10, -5, -1};
        for (int i = 0; i < six.length; i++) {
            int power = 4 * i - 10;
            BENCH.due("beside five circles, A^" + power, six[i], () -> house.jones(0, power));
        }
        KnotHouse row = with("o1+u2+;u1+o2+o3+u4+;u3+o4+o5+u6+;u5+o6+o7+u8+;u7+o8+o9+u10+;u9+o10+o11+u11+o12+u12+");
        for (int k = 0; k <= 12; k++) {
            int power = k;
            BENCH.due("a row of six components, z^" + k, k == 5 ? 1 : 0, () -> row.conway(0, power));
        }
        BENCH.due("its signature", -5, () -> row.signature(0));
        for (int k = 0; k < 6; k++) {
            int number = k;
            BENCH.due("its cover", k < 5 ? 2 : KnotHouse.NONE, () -> row.cover(0, number));
        }
    }

    /** "1 for one CIRCLE alone, 0 if there are two PARTS or more". */
    private static void conwayOfCircles() {
        BENCH.due("one circle", 1, () -> with("").conway(0, 0));
        BENCH.due("one circle at z", 0, () -> with("").conway(0, 1));
        String[] apart = {";", ";;;;;", Bench.TREFOIL + ";", Bench.HOPF + ";o3+u3+"};
        for (String text : apart) {
            KnotHouse house = with(text);
            for (int k = 0; k <= 12; k++) {
                int power = k;
                BENCH.due("two parts or more, z^" + k, 0, () -> house.conway(0, power));
            }
        }
        BENCH.due("two that can be drawn apart", 0, () -> with("o1+o2-;u1+u2-").conway(0, 1));
    }

    /** "The number of C at z^k; 0 for another k." */
    private static void conwayAtOtherPowers() {
        KnotHouse house = withClosure(2, TWELVE);
        BENCH.due("the highest power", 1, () -> house.conway(0, 11));
        for (int k : new int[] {-2, -1, 0, 10, 12, 13, 14, 100, Integer.MIN_VALUE, Integer.MAX_VALUE}) {
            BENCH.due("z^" + k, 0, () -> house.conway(0, k));
        }
    }

    /** "(- A^2 - A^-2)^(LOOPS - 1)": "CIRCLES are some" of the loops. */
    private static void jonesOfCircles() {
        BENCH.due("one circle", 1, () -> with("").jones(0, 0));
        int[] six = {-1, 0, 0, 0, -5, 0, 0, 0, -10, 0, 0, 0, -10, 0, 0, 0, -5, 0, 0, 0, -1};
        KnotHouse house = with(";;;;;");
        for (int i = 0; i < six.length; i++) {
            int power = i - 10;
            BENCH.due("six circles, A^" + power, six[i], () -> house.jones(0, power));
        }
    }

    /** "The number of J at A^k; 0 for another k", also with powers below 0. */
    private static void jonesAtOtherPowers() {
        KnotHouse house = withClosure(2, "aaa");
        int[] powers = {-16, -12, -4};
        int[] numbers = {-1, 1, 1};
        for (int i = 0; i < powers.length; i++) {
            int power = powers[i];
            BENCH.due("A^" + power, numbers[i], () -> house.jones(0, power));
        }
        for (int k : new int[] {-20, -17, -15, -8, 0, 4, 12, 16, 60, -60, Integer.MIN_VALUE, Integer.MAX_VALUE}) {
            BENCH.due("A^" + k, 0, () -> house.jones(0, k));
        }
        // Numbers that differ by 2^32 from a power that there is cannot be told from it by 32 bits.
        BENCH.due("far below", 0, () -> withClosure(2, "AAAAAAAAAAAA").jones(0, Integer.MIN_VALUE + 8));
        BENCH.due("far above", 0, () -> withClosure(2, TWELVE).jones(0, Integer.MAX_VALUE - 7));
    }

    /** "the sum over PARTS with CROSSINGS". */
    private static void signatureOfCircles() {
        BENCH.due("one circle", 0, () -> with("").signature(0));
        BENCH.due("six circles", 0, () -> with(";;;;;").signature(0));
        BENCH.due("a loop", 0, () -> with("o1+u1+").signature(0));
        BENCH.due("a loop with -", 0, () -> with("u1-o1-").signature(0));
    }

    private static void signatureOfParts() {
        BENCH.due("beside circles", -2, () -> with(Bench.TREFOIL + ";;;;;").signature(0));
        KnotHouse house = with(Bench.TREFOIL);
        house.apart(0, 0);
        house.apart(1, 1);
        BENCH.due("four parts", -8, () -> house.signature(2));
        house.mirror(1);
        BENCH.due("with their mirrors", 0, () -> house.signature(house.apart(1, 3)));
        BENCH.due("twelve crossings of one", -11, () -> withClosure(2, TWELVE).signature(0));
        BENCH.due("twelve crossings with -", 11, () -> withClosure(2, "AAAAAAAAAAAA").signature(0));
        BENCH.due("twelve loops", 0, () -> with(
            "o1+u1+o2+u2+o3+u3+o4-u4-o5-u5-o6-u6-u7+o7+u8+o8+u9+o9+u10-o10-u11-o11-u12-o12-").signature(0));
    }

    /** "The k-th of COVER (0 the first); NONE: none such." */
    private static void coverByNumber() {
        BENCH.due("of a circle", KnotHouse.NONE, () -> with("").cover(0, 0));
        KnotHouse house = withClosure(3, "aabbbb");
        int[] due = {KnotHouse.NONE, 2, 4, KnotHouse.NONE};
        for (int i = 0; i < due.length; i++) {
            int k = i - 1;
            BENCH.due("cover " + k, due[i], () -> house.cover(0, k));
        }
        for (int k : new int[] {-2, 17, 18, Integer.MIN_VALUE, Integer.MAX_VALUE}) {
            BENCH.due("cover " + k, KnotHouse.NONE, () -> house.cover(0, k));
        }
    }

    /** "none of them 1, each dividing the next one (0 is divided by all, and comes last)". */
    private static void coverWithZeros() {
        KnotHouse circles = with(";;;;;");
        BENCH.due("six circles, the last", 0, () -> circles.cover(0, 4));
        BENCH.due("six circles, none such", KnotHouse.NONE, () -> circles.cover(0, 5));
        KnotHouse house = with(Bench.TREFOIL + ";;");
        int[] due = {3, 0, 0, KnotHouse.NONE};
        for (int k = 0; k < due.length; k++) {
            int number = k;
            BENCH.due("beside circles, " + k, due[k], () -> house.cover(0, number));
        }
        BENCH.due("none is 1", KnotHouse.NONE, () -> with("o1+u1+o2-u2-o3+u3+").cover(0, 0));
        BENCH.due("3 and 5 are 15", 15, () -> withClosure(3, "aaabbbbb").cover(0, 0));
        BENCH.due("3 and 5 are one", KnotHouse.NONE, () -> withClosure(3, "aaabbbbb").cover(0, 1));
    }

    /** "a COMPONENT without VISIT UNDER is one ARC". */
    private static void componentsWithoutUnder() {
        String text = "o1+o2-;u1+u2-";
        BENCH.due("cover", 0, () -> with(text).cover(0, 0));
        BENCH.due("colours", 49L, () -> with(text).colours(0, 7));
        BENCH.due("maps", 36, () -> with(text).maps(0, 3));
        BENCH.due("both arcs are free, with a circle too", 343L, () -> with(text + ";").colours(0, 7));
        BENCH.due("a loop is one arc", 7L, () -> with("o1+u1+").colours(0, 7));
    }

    /** "IllegalArgument: m is not 1 .. 100." */
    private static void coloursToTheBounds() {
        BENCH.due("m 1", 1L, () -> with(";;;;;").colours(0, 1));
        BENCH.due("m 100 of six circles", 1000000000000L, () -> with(";;;;;").colours(0, 100));
        BENCH.due("m 99 of a trefoil", 297L, () -> with(Bench.TREFOIL).colours(0, 99));
        BENCH.due("m 100 of a trefoil", 100L, () -> with(Bench.TREFOIL).colours(0, 100));
        KnotHouse house = with(Bench.TREFOIL);
        for (int m : new int[] {0, 101, -1, -100, Integer.MIN_VALUE, Integer.MAX_VALUE}) {
            BENCH.due("m " + m, Bench.ARGUMENT, () -> house.colours(0, m));
            BENCH.due("the place is told first", Bench.INDEX, () -> house.colours(1, m));
        }
    }

    /** "IllegalArgument: m is not 1 .. 4". */
    private static void mapsToTheBounds() {
        int[] trefoil = {1, 2, 12, 96};
        KnotHouse house = with(Bench.TREFOIL);
        for (int m = 1; m <= 4; m++) {
            int number = m;
            BENCH.due("maps of a trefoil, " + m, trefoil[m - 1], () -> house.maps(0, number));
            BENCH.due("maps of a circle, " + m, new int[] {1, 2, 6, 24}[m - 1], () -> with("").maps(0, number));
        }
        Bench.diagram(house, ";;;;;");
        for (int m : new int[] {0, 5, -1, Integer.MIN_VALUE, Integer.MAX_VALUE}) {
            BENCH.due("m " + m, Bench.ARGUMENT, () -> house.maps(0, m));
            BENCH.due("m is told ahead of the components", Bench.ARGUMENT, () -> house.maps(1, m));
            BENCH.due("the place is told first", Bench.INDEX, () -> house.maps(2, m));
        }
    }

    /** "UnsupportedOperation: more than 7 CROSSINGS, 4 COMPONENTS." */
    private static void mapsOfSevenAndFour() {
        BENCH.due("seven crossings", 24, () -> withClosure(2, "aaaaaaa").maps(0, 4));
        BENCH.due("eight crossings", Bench.UNSUPPORTED, () -> withClosure(2, "aaaaaaaa").maps(0, 1));
        BENCH.due("four components", 331776, () -> with(";;;").maps(0, 4));
        BENCH.due("five components", Bench.UNSUPPORTED, () -> with(";;;;").maps(0, 1));
        BENCH.due("seven crossings, four components", 16,
            () -> with("o1+o2+u3+u4+o7+u7+;u1+o4+;u2+o3+o5+u6+;u5+o6+").maps(0, 2));
        BENCH.due("eight crossings, four components", Bench.UNSUPPORTED,
            () -> with("o1+o2+u3+u4+o7+u7+o8+u8+;u1+o4+;u2+o3+o5+u6+;u5+o6+").maps(0, 2));
        BENCH.due("seven loops beside three circles", 331776,
            () -> with("o1+u1+o2+u2+o3+u3+o4+u4+o5+u5+o6+u6+o7+u7+;;;").maps(0, 4));
    }

    /** "IllegalArgument: p is no prime 2 .. 997". */
    private static void chainOfPrimes() {
        KnotHouse house = with(Bench.TREFOIL);
        BENCH.due("p 2", 6, () -> house.chain(0, 2));
        for (int p : new int[] {3, 5, 7, 31, 991, 997}) {
            BENCH.due("p " + p, 4, () -> house.chain(0, p));
        }
        BENCH.due("other ranks over 2", 12, () -> withClosure(5, "cDaacaB").chain(0, 2));
        BENCH.due("than over 997", 8, () -> withClosure(5, "cDaacaB").chain(0, 997));
        BENCH.due("where numbers other than 1 divide, 7", 16, () -> withClosure(3, "bbbaBBaa").chain(0, 7));
        BENCH.due("where numbers other than 1 divide, 997", 16, () -> withClosure(3, "bbbaBBaa").chain(0, 997));
        int[] others = {1, 0, -1, -2, -3, 4, 6, 9, 25, 49, 529, 961, 989, 995, 996, 998, 999, 1009, 1013,
            Integer.MIN_VALUE, Integer.MAX_VALUE};
        Bench.closure(house, 2, TWELVE);
        for (int p : others) {
            BENCH.due("p " + p, Bench.ARGUMENT, () -> house.chain(0, p));
            BENCH.due("p is told ahead of the crossings", Bench.ARGUMENT, () -> house.chain(1, p));
            BENCH.due("the place is told first", Bench.INDEX, () -> house.chain(2, p));
        }
        BENCH.due("twelve crossings", Bench.UNSUPPORTED, () -> house.chain(1, 2));
    }

    /** "UnsupportedOperation: CROSSINGS and PARTS together are more than 9." */
    private static void chainOfNine() {
        BENCH.due("8 + 1", 16, () -> withClosure(2, "aaaaaaaa").chain(0, 2));
        BENCH.due("9 + 1", Bench.UNSUPPORTED, () -> withClosure(2, "aaaaaaaaa").chain(0, 2));
        BENCH.due("7 + 2", 28, () -> withClosure(3, "aaaaaaa").chain(0, 2));
        BENCH.due("8 + 2", Bench.UNSUPPORTED, () -> withClosure(3, "aaaaaaaa").chain(0, 2));
        BENCH.due("3 + 6, circles are parts", 192, () -> with(Bench.TREFOIL + ";;;;;").chain(0, 2));
        BENCH.due("4 + 6", Bench.UNSUPPORTED, () -> with(Bench.TREFOIL + "o4+u4+;;;;;").chain(0, 2));
        BENCH.due("6 + 3", 32, () -> with("o1+u2+;u1+o2+;o3+u4+;u3+o4+;o5+u5+o6+u6+").chain(0, 3));
        BENCH.due("8 + 1, loops", 2, () -> with("o1+u1+o2+u2+o3+u3+o4+u4+u5-o5-u6-o6-u7-o7-u8-o8-").chain(0, 2));
    }

    private static void chainOfCircles() {
        KnotHouse house = with(";;;;;");
        BENCH.due("six circles", 64, () -> house.chain(0, 997));
        int[] due = {1, 0, 6, 0, 15, 0, 20, 0, 15, 0, 6, 0, 1};
        for (int i = 0; i < due.length; i++) {
            int q = i - 6;
            BENCH.due("rank 0, " + q, due[i], () -> house.rank(0, q));
        }
        BENCH.due("rank 0, 8", 0, () -> house.rank(0, 8));
        BENCH.due("rank 1, 0", 0, () -> house.rank(1, 0));
        BENCH.due("rank -1, 0", 0, () -> house.rank(-1, 0));
    }

    /** "RANK(i, q) of the latest chain() that threw nothing; 0 without." */
    private static void rankWithout() {
        KnotHouse house = new KnotHouse();
        for (int q = -2; q <= 2; q++) {
            int at = q;
            BENCH.due("without chain", 0, () -> house.rank(0, at));
        }
        BENCH.due("refused", Bench.INDEX, () -> house.chain(0, 2));
        Bench.closure(house, 2, "aaaaaaaaa");
        BENCH.due("refused", Bench.ARGUMENT, () -> house.chain(0, 1));
        BENCH.due("refused", Bench.UNSUPPORTED, () -> house.chain(0, 2));
        BENCH.due("without chain still", 0, () -> house.rank(0, 7));
    }

    private static void rankOfTheLatest() {
        KnotHouse house = with(Bench.TREFOIL);
        Bench.diagram(house, "");
        Bench.closure(house, 2, TWELVE);
        house.chain(1, 2);
        house.chain(0, 2);
        BENCH.due("of the trefoil", 1, () -> house.rank(3, 7));
        BENCH.due("refused", Bench.INDEX, () -> house.chain(3, 3));
        BENCH.due("refused", Bench.ARGUMENT, () -> house.chain(1, 4));
        BENCH.due("refused", Bench.UNSUPPORTED, () -> house.chain(2, 3));
        house.drop(0);
        BENCH.due("of the trefoil still", 1, () -> house.rank(3, 7));
        BENCH.due("of the trefoil still", 1, () -> house.rank(0, 3));
        house.chain(1, 2);
        BENCH.due("of the circle", 0, () -> house.rank(3, 7));
        BENCH.due("of the circle", 1, () -> house.rank(0, -1));
        BENCH.due("of the circle", 1, () -> house.rank(0, 1));
    }

    private static void rankAtOthers() {
        KnotHouse house = withClosure(2, "AAAAAAAA");
        house.chain(0, 2);
        BENCH.due("the least", 1, () -> house.rank(-8, -24));
        BENCH.due("the greatest", 1, () -> house.rank(0, -6));
        int[] far = {Integer.MIN_VALUE, Integer.MIN_VALUE + 1, -1000, -25, 25, 1000, Integer.MAX_VALUE};
        for (int i : far) {
            BENCH.due("rank " + i + ", -6", 0, () -> house.rank(i, -6));
            BENCH.due("rank 0, " + i, 0, () -> house.rank(0, i));
            BENCH.due("rank of both", 0, () -> house.rank(i, i));
        }
        BENCH.due("rank -9", 0, () -> house.rank(-9, -24));
        BENCH.due("rank 1", 0, () -> house.rank(1, -6));
    }

    /** "IndexOutOfBounds: no such DIAGRAM." */
    private static void noPlaces() {
        KnotHouse house = with("");
        for (int place : NO_PLACES) {
            BENCH.due("conway of " + place, Bench.INDEX, () -> house.conway(place, 0));
            BENCH.due("jones of " + place, Bench.INDEX, () -> house.jones(place, 0));
            BENCH.due("signature of " + place, Bench.INDEX, () -> house.signature(place));
            BENCH.due("cover of " + place, Bench.INDEX, () -> house.cover(place, 0));
            BENCH.due("colours of " + place, Bench.INDEX, () -> house.colours(place, 1));
            BENCH.due("maps of " + place, Bench.INDEX, () -> house.maps(place, 1));
            BENCH.due("chain of " + place, Bench.INDEX, () -> house.chain(place, 2));
        }
    }
}
