/** The edges that the document names in section 5 and in promises 32 to 40, each above its test. */
public final class BraidEdgeTest {
    private static final int[] NO_PLACES = {-1, 19, 20, 39, Integer.MIN_VALUE, Integer.MAX_VALUE};
    private static final int[] FAR = {Integer.MIN_VALUE, Integer.MAX_VALUE};
    private static final String SIXTEEN = "aaaaaaaaaaaaaaaa";
    /** Summit sets of 200, the most that are told, and of 202. */
    private static final String MOST = "CbAcbBAcAAccbAAb";
    private static final String MORE = "BBbaBBaabcccbAcB";
    private static final Bench BENCH = new Bench();

    public static void main(String[] args) {
        closureOfNothing();
        closureOfTwelve();
        closureGoesOn();
        productOfSixteen();
        productOfOtherStrands();
        inverseOfNothing();
        inverseOfSixteen();
        formOfNothing();
        formOfDeltas();
        formOfSixteen();
        normalByNumber();
        factorByNumber();
        equalToNone();
        equalBySteps();
        summitOfFew();
        summitToTheBound();
        summitOfFive();
        conjugateOpen();
        conjugateOfOtherStrands();
        traceOfCircles();
        traceOfTen();
        traceAtOthers();
        nothingChanges();
        noPlaces();
        BENCH.finish();
    }

    private static KnotHouse with(int strands, String... words) {
        KnotHouse house = new KnotHouse();
        for (String word : words) {
            Bench.braid(house, strands, word);
        }
        return house;
    }

    private static String closure(int strands, String word) {
        KnotHouse house = with(strands, word);
        return Bench.show(house, house.closure(0));
    }

    /** "What ends at a place goes on with what begins there": a strand without letters is a circle. */
    private static void closureOfNothing() {
        BENCH.due("two strands", "||", () -> closure(2, ""));
        BENCH.due("five strands", "|||||", () -> closure(5, ""));
        BENCH.due("the first strands have no letter", "o0+u0+||||", () -> closure(5, "d"));
        BENCH.due("the last strands have no letter", "o0-u0-||||", () -> closure(5, "A"));
    }

    /** "UnsupportedOperation: more than 12 letters, IllegalState." */
    private static void closureOfTwelve() {
        KnotHouse house = with(2, "aaaaaaaaaaaa", "aaaaaaaaaaaaa", SIXTEEN, "a");
        BENCH.due("twelve", 0, () -> house.closure(0));
        BENCH.due("twelve crossings", 12, () -> house.figure(0, 0));
        BENCH.due("thirteen", Bench.UNSUPPORTED, () -> house.closure(1));
        BENCH.due("sixteen", Bench.UNSUPPORTED, () -> house.closure(2));
        BENCH.due("nothing came", false, () -> house.drop(1));
        Bench.fillDiagrams(house);
        BENCH.due("the letters are told first", Bench.UNSUPPORTED, () -> house.closure(1));
        BENCH.due("no place", Bench.STATE, () -> house.closure(3));
        BENCH.due("no such braid, told first", Bench.INDEX, () -> house.closure(4));
        house.drop(39);
        BENCH.due("the last place", 39, () -> house.closure(3));
    }

    /** "the strand at the lesser place goes OVER to the greater one, if it is small, UNDER, if capital". */
    private static void closureGoesOn() {
        BENCH.due("small", "o0+u0+u1+o2+|o1+u2+|", () -> closure(3, "aba"));
        BENCH.due("capital", "o0-o1-u2-u0-|u1-o2-|", () -> closure(3, "ABA"));
        BENCH.due("one strand round five places", 1, () -> {
            KnotHouse house = with(5, "abcd");
            return house.figure(house.closure(0), 1);
        });
    }

    /** "UnsupportedOperation: more than 16 letters, IllegalState." */
    private static void productOfSixteen() {
        KnotHouse house = with(2, "aaaaaaaa", "AAAAAAAA", "a", "", SIXTEEN);
        BENCH.due("8 + 8", 5, () -> house.product(0, 1));
        BENCH.due("sixteen letters", 16, () -> house.normal(5, 2));
        BENCH.due("all of both", 0, () -> house.normal(5, 0));
        BENCH.due("16 + 0", 6, () -> house.product(4, 3));
        BENCH.due("0 + 16", 7, () -> house.product(3, 4));
        BENCH.due("0 + 0", 0, () -> house.normal(house.product(3, 3), 2));
        BENCH.due("16 + 1", Bench.UNSUPPORTED, () -> house.product(4, 2));
        BENCH.due("1 + 16", Bench.UNSUPPORTED, () -> house.product(2, 4));
        BENCH.due("16 + 16", Bench.UNSUPPORTED, () -> house.product(4, 4));
        BENCH.due("nothing came", false, () -> house.dropBraid(9));
        Bench.fillBraids(house);
        BENCH.due("the letters are told first", Bench.UNSUPPORTED, () -> house.product(4, 2));
        BENCH.due("no place", Bench.STATE, () -> house.product(2, 2));
        BENCH.due("no such braid, told first", Bench.INDEX, () -> house.product(20, 4));
        house.dropBraid(19);
        BENCH.due("the last place", 19, () -> house.product(2, 2));
    }

    /** "IllegalArgument: they have not as many strands". */
    private static void productOfOtherStrands() {
        KnotHouse house = with(2, "a", SIXTEEN);
        Bench.braid(house, 3, "");
        Bench.braid(house, 3, "a");
        BENCH.due("two and three", Bench.ARGUMENT, () -> house.product(0, 3));
        BENCH.due("three and two", Bench.ARGUMENT, () -> house.product(2, 0));
        BENCH.due("strands are told ahead of letters", Bench.ARGUMENT, () -> house.product(1, 3));
        Bench.fillBraids(house);
        BENCH.due("strands are told ahead of places", Bench.ARGUMENT, () -> house.product(0, 2));
    }

    private static void inverseOfNothing() {
        KnotHouse house = with(4, "");
        BENCH.due("of nothing", 1, () -> house.inverse(0));
        BENCH.due("no letters", 0, () -> house.normal(1, 2));
        BENCH.due("as many strands", 4, () -> house.normal(1, 3));
        Bench.fillBraids(house);
        BENCH.due("no place", Bench.STATE, () -> house.inverse(0));
        BENCH.due("no such braid, told first", Bench.INDEX, () -> house.inverse(20));
        BENCH.due("no such braid, told first", Bench.INDEX, () -> house.inverse(-1));
        house.dropBraid(19);
        BENCH.due("the last place", 19, () -> house.inverse(0));
    }

    /** "The word from its end, small letters capital, capital ones small". */
    private static void inverseOfSixteen() {
        KnotHouse house = with(5, "abcdABCDdcbaDCBa", "AbcdABCDdcbaDCBA");
        house.inverse(0);
        BENCH.due("sixteen letters", 16, () -> house.normal(2, 2));
        BENCH.due("is that", true, () -> house.equal(1, 2));
        BENCH.due("twice", true, () -> house.equal(0, house.inverse(2)));
    }

    /** k, then each factor as the places to which it takes 0, 1, .. */
    private static String form(int strands, String word) {
        KnotHouse house = with(strands, word);
        StringBuilder all = new StringBuilder();
        all.append(house.normal(0, 0));
        for (int i = 1; i <= house.normal(0, 1); i++) {
            all.append(' ');
            for (int j = 0; j < strands; j++) {
                all.append(house.factor(0, i, j));
            }
        }
        return all.toString();
    }

    /** "S1 .. Sr SIMPLE, none empty or DELTA". */
    private static void formOfNothing() {
        for (int n = 2; n <= 5; n++) {
            int strands = n;
            BENCH.due("nothing", "0", () -> form(strands, ""));
            BENCH.due("what goes away", "0", () -> form(strands, "aAAa"));
        }
        BENCH.due("simple, but not delta", "0 201", () -> form(3, "ab"));
        BENCH.due("one letter more is delta", "1", () -> form(3, "aba"));
        BENCH.due("two of the same", "0 102 102", () -> form(3, "aa"));
    }

    /** "DELTA is the SIMPLE one in which each two change"; "k any whole number". */
    private static void formOfDeltas() {
        String[] deltas = {"a", "aba", "abacba", "abacbadcba"};
        String[] inverses = {"A", "ABA", "ABCABA", "ABCDABCABA"};
        for (int n = 2; n <= 5; n++) {
            int strands = n;
            BENCH.due("delta of " + n, "1", () -> form(strands, deltas[strands - 2]));
            BENCH.due("its inverse", "-1", () -> form(strands, inverses[strands - 2]));
        }
        BENCH.due("five times", "5", () -> form(3, "abaabaabaabaaba"));
        BENCH.due("five times below 0", "-5", () -> form(3, "ABAABAABAABAABA"));
        BENCH.due("delta goes through", "1 021", () -> form(3, "aaba"));
        BENCH.due("delta stands first", "1 102", () -> form(3, "abaa"));
    }

    private static void formOfSixteen() {
        BENCH.due("two strands", "16", () -> form(2, SIXTEEN));
        BENCH.due("two strands below 0", "-16", () -> form(2, "AAAAAAAAAAAAAAAA"));
        KnotHouse house = with(3, SIXTEEN, "AAAAAAAAAAAAAAAA");
        BENCH.due("sixteen factors", 16, () -> house.normal(0, 1));
        BENCH.due("the last takes 0 to 1", 1, () -> house.factor(0, 16, 0));
        BENCH.due("sixteen deltas taken away", -16, () -> house.normal(1, 0));
        BENCH.due("sixteen factors", 16, () -> house.normal(1, 1));
        KnotHouse five = with(5, "AdAdAdAdAdAdAdAd");
        BENCH.due("of five strands", -8, () -> five.normal(0, 0));
        BENCH.due("of five strands", 16, () -> five.normal(0, 1));
    }

    /** "IndexOutOfBounds, IllegalArgument: what." */
    private static void normalByNumber() {
        KnotHouse house = with(4, "abC");
        int[] due = {-1, 2, 3, 4};
        for (int what = 0; what < 4; what++) {
            int number = what;
            BENCH.due("what " + what, due[what], () -> house.normal(0, number));
        }
        for (int what : new int[] {-1, 4, Integer.MIN_VALUE, Integer.MAX_VALUE}) {
            BENCH.due("what " + what, Bench.ARGUMENT, () -> house.normal(0, what));
            BENCH.due("the place is told first", Bench.INDEX, () -> house.normal(1, what));
        }
    }

    /** "S(i) of NORMAL FORM (1 the first) ..; NONE: no such i, j." */
    private static void factorByNumber() {
        KnotHouse house = with(3, "aab", "", "aba");
        BENCH.due("two factors", 2, () -> house.normal(0, 1));
        BENCH.due("the first at 0", 1, () -> house.factor(0, 1, 0));
        BENCH.due("the first at 2", 2, () -> house.factor(0, 1, 2));
        BENCH.due("the last at 0", 2, () -> house.factor(0, 2, 0));
        BENCH.due("the last at 2", 1, () -> house.factor(0, 2, 2));
        for (int i : new int[] {-1, 0, 3, 16, 17, 24, 25, Integer.MIN_VALUE, Integer.MAX_VALUE}) {
            BENCH.due("no such i " + i, KnotHouse.NONE, () -> house.factor(0, i, 0));
        }
        for (int j : new int[] {-1, 3, 4, 5, 8, Integer.MIN_VALUE, Integer.MAX_VALUE}) {
            BENCH.due("no such j " + j, KnotHouse.NONE, () -> house.factor(0, 1, j));
        }
        BENCH.due("nothing has none", KnotHouse.NONE, () -> house.factor(1, 1, 0));
        BENCH.due("delta has none", KnotHouse.NONE, () -> house.factor(2, 1, 0));
        BENCH.due("no such braid", Bench.INDEX, () -> house.factor(3, 0, -1));
    }

    /** "Whether two BRAIDS are there, have as many strands, and are EQUAL." */
    private static void equalToNone() {
        KnotHouse house = new KnotHouse();
        BENCH.due("none is there", false, () -> house.equal(0, 0));
        Bench.braid(house, 2, "");
        Bench.braid(house, 3, "");
        BENCH.due("one twice", true, () -> house.equal(0, 0));
        BENCH.due("other strands", false, () -> house.equal(0, 1));
        for (int place : NO_PLACES) {
            BENCH.due("with " + place, false, () -> house.equal(0, place));
            BENCH.due("with " + place, false, () -> house.equal(place, 0));
        }
        Bench.braid(house, 2, "aA");
        BENCH.due("with nothing", true, () -> house.equal(0, 2));
        house.dropBraid(2);
        BENCH.due("one is gone", false, () -> house.equal(0, 2));
    }

    private static boolean equal(int strands, String one, String two) {
        return with(strands, one, two).equal(0, 1);
    }

    /** "letters that stand together, whose places are two or more apart, change places; x y x .. becomes y x y". */
    private static void equalBySteps() {
        BENCH.due("x X", true, () -> equal(2, "aAaA", ""));
        BENCH.due("X x", true, () -> equal(5, "Dd", ""));
        BENCH.due("two apart", true, () -> equal(4, "ac", "ca"));
        BENCH.due("three apart", true, () -> equal(5, "aD", "Da"));
        BENCH.due("one apart", false, () -> equal(4, "bc", "cb"));
        BENCH.due("neighbours", true, () -> equal(5, "cdc", "dcd"));
        BENCH.due("no neighbours", false, () -> equal(5, "aca", "cac"));
        BENCH.due("sixteen letters", true, () -> equal(3, "abababababababab", "ababababababaaba"));
    }

    private static int summit(int strands, String word) {
        return with(strands, word).summit(0);
    }

    /** "How many are in the SUMMIT SET". */
    private static void summitOfFew() {
        for (int n = 2; n <= 4; n++) {
            int strands = n;
            BENCH.due("nothing", 1, () -> summit(strands, ""));
            BENCH.due("one letter", strands - 1, () -> summit(strands, "a"));
            BENCH.due("one letter in a longer word", strands - 1, () -> summit(strands, "aaAaaAA"));
        }
        BENCH.due("sixteen letters of two strands", 1, () -> summit(2, SIXTEEN));
        BENCH.due("sixteen letters of four strands", 3, () -> summit(4, SIXTEEN));
        BENCH.due("a conjugate of one letter", 3, () -> summit(4, "cbAcbaBCaBC"));
    }

    /** "OPEN, if there are more than 200." */
    private static void summitToTheBound() {
        BENCH.due("200", 200, () -> summit(4, MOST));
        BENCH.due("202", KnotHouse.OPEN, () -> summit(4, MORE));
    }

    /** "UnsupportedOperation: 5 strands." */
    private static void summitOfFive() {
        BENCH.due("four", 1, () -> summit(4, ""));
        BENCH.due("five", Bench.UNSUPPORTED, () -> summit(5, ""));
        KnotHouse house = with(5, "a", "b");
        BENCH.due("five", Bench.UNSUPPORTED, () -> house.conjugate(0, 1));
        BENCH.due("five, one twice", Bench.UNSUPPORTED, () -> house.conjugate(0, 0));
        BENCH.due("no such braid, told first", Bench.INDEX, () -> house.conjugate(0, 2));
        BENCH.due("no such braid, told first", Bench.INDEX, () -> house.summit(2));
    }

    private static int conjugate(int strands, String one, String two) {
        return with(strands, one, two).conjugate(0, 1);
    }

    /** "1, 0; OPEN, if one's set is." */
    private static void conjugateOpen() {
        BENCH.due("of 200 with itself", 1, () -> conjugate(4, MOST, MOST));
        BENCH.due("of 200 with its end first", 1, () -> conjugate(4, MOST, MOST.substring(8) + MOST.substring(0, 8)));
        BENCH.due("of 200 with another", 0, () -> conjugate(4, MOST, "a"));
        BENCH.due("of 202 with itself", KnotHouse.OPEN, () -> conjugate(4, MORE, MORE));
        BENCH.due("the first set is open", KnotHouse.OPEN, () -> conjugate(4, MORE, ""));
        BENCH.due("the second set is open", KnotHouse.OPEN, () -> conjugate(4, "", MORE));
        BENCH.due("nothing and nothing", 1, () -> conjugate(2, "", "aA"));
        BENCH.due("other letters in all", 0, () -> conjugate(2, "a", "aa"));
        BENCH.due("as many deltas, other factors", 0, () -> conjugate(3, "aaab", "aabb"));
    }

    /** "IllegalArgument: they have not as many strands, UnsupportedOperation: 5 strands." */
    private static void conjugateOfOtherStrands() {
        KnotHouse house = new KnotHouse();
        for (int n = 2; n <= 5; n++) {
            Bench.braid(house, n, "");
        }
        BENCH.due("two and three", Bench.ARGUMENT, () -> house.conjugate(0, 1));
        BENCH.due("four and five, strands are told first", Bench.ARGUMENT, () -> house.conjugate(2, 3));
        BENCH.due("five and four, strands are told first", Bench.ARGUMENT, () -> house.conjugate(3, 2));
        BENCH.due("four and four", 1, () -> house.conjugate(2, 2));
    }

    /** "((x^-1 - x) z^-1)^(k - 1) for k CIRCLES alone". */
    private static void traceOfCircles() {
        KnotHouse two = with(2, "");
        BENCH.due("two circles, x^-1 z^-1", 1, () -> two.two(0, -1, -1));
        BENCH.due("two circles, x z^-1", -1, () -> two.two(0, 1, -1));
        BENCH.due("two circles, 1", 0, () -> two.two(0, 0, 0));
        KnotHouse five = with(5, "");
        int[] due = {1, -4, 6, -4, 1};
        for (int i = 0; i < due.length; i++) {
            int x = 2 * i - 4;
            BENCH.due("five circles, x^" + x + " z^-4", due[i], () -> five.two(0, x, -4));
        }
        BENCH.due("five circles, x^-6 z^-4", 0, () -> five.two(0, -6, -4));
        BENCH.due("five circles, x^0 z^-5", 0, () -> five.two(0, 0, -5));
        BENCH.due("one circle", 1, () -> with(5, "abCD").two(0, 0, 0));
    }

    /** "UnsupportedOperation: more than 10 letters." */
    private static void traceOfTen() {
        KnotHouse house = with(2, "aaaaaaaaaa", "aaaaaaaaaaa", SIXTEEN);
        BENCH.due("ten, the highest power", 1, () -> house.two(0, 9, 9));
        BENCH.due("eleven", Bench.UNSUPPORTED, () -> house.two(1, 0, 0));
        BENCH.due("sixteen", Bench.UNSUPPORTED, () -> house.two(2, 0, 0));
        BENCH.due("no such braid, told first", Bench.INDEX, () -> house.two(3, 0, 0));
        Bench.fillDiagrams(house);
        BENCH.due("no place is needed", 1, () -> house.two(0, 9, 9));
    }

    /** "The number of P of THE CLOSURE at x^i z^j; 0 for others." */
    private static void traceAtOthers() {
        KnotHouse house = with(2, "aaa");
        BENCH.due("x^2", 2, () -> house.two(0, 2, 0));
        BENCH.due("x^2 z^2", 1, () -> house.two(0, 2, 2));
        BENCH.due("x^4", -1, () -> house.two(0, 4, 0));
        int[] others = {-1000, -65, -64, -21, -20, 20, 21, 64, 65, 1000};
        for (int far : others) {
            BENCH.due("x^" + far, 0, () -> house.two(0, far, 0));
            BENCH.due("z^" + far, 0, () -> house.two(0, 2, far));
        }
        for (int far : FAR) {
            BENCH.due("x^" + far, 0, () -> house.two(0, far, 0));
            BENCH.due("z^" + far, 0, () -> house.two(0, 2, far));
            BENCH.due("both", 0, () -> house.two(0, far, far));
        }
        // Powers beside one another in a table must not run into one another.
        BENCH.due("z^41 of the power before", 0, () -> house.two(0, 1, 41));
        BENCH.due("z^-41 of the power behind", 0, () -> house.two(0, 3, -41));
        BENCH.due("z^-39 of the power behind", 0, () -> house.two(0, 3, -39));
    }

    /** "No act changes a DIAGRAM or BRAID: it makes a new one." */
    private static void nothingChanges() {
        KnotHouse house = with(3, "aab", "Ba");
        house.inverse(0);
        house.product(0, 1);
        house.product(1, 0);
        house.closure(0);
        house.summit(0);
        house.conjugate(0, 1);
        house.two(0, 1, 1);
        Bench.braid(house, 3, "aab");
        Bench.braid(house, 3, "Ba");
        BENCH.due("the first is as before", true, () -> house.equal(0, 5));
        BENCH.due("the second is as before", true, () -> house.equal(1, 6));
        BENCH.due("its letters", 3, () -> house.normal(0, 2));
        BENCH.due("its closure", true, () -> house.alike(0, house.closure(5)));
    }

    /** "IndexOutOfBounds: no such BRAID". */
    private static void noPlaces() {
        KnotHouse house = with(2, "a");
        Bench.diagram(house, "");
        Bench.diagram(house, "");
        for (int place : NO_PLACES) {
            BENCH.due("closure of " + place, Bench.INDEX, () -> house.closure(place));
            BENCH.due("product of " + place, Bench.INDEX, () -> house.product(place, 0));
            BENCH.due("product with " + place, Bench.INDEX, () -> house.product(0, place));
            BENCH.due("inverse of " + place, Bench.INDEX, () -> house.inverse(place));
            BENCH.due("normal of " + place, Bench.INDEX, () -> house.normal(place, 0));
            BENCH.due("factor of " + place, Bench.INDEX, () -> house.factor(place, 1, 0));
            BENCH.due("summit of " + place, Bench.INDEX, () -> house.summit(place));
            BENCH.due("conjugate of " + place, Bench.INDEX, () -> house.conjugate(place, 0));
            BENCH.due("conjugate with " + place, Bench.INDEX, () -> house.conjugate(0, place));
            BENCH.due("two of " + place, Bench.INDEX, () -> house.two(place, 0, 0));
        }
        BENCH.due("a diagram's place is no braid's", Bench.INDEX, () -> house.closure(1));
    }
}
