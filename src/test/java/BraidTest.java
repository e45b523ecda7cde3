/** Promises 32 to 40: closure, product, inverse, normal, factor, equal, summit, conjugate, two. */
public final class BraidTest {
    private static final int[] NO_PLACES = {-1, 20, 15, Integer.MIN_VALUE, Integer.MAX_VALUE};
    private static final int[] FAR = {-99, 99, Integer.MIN_VALUE, Integer.MAX_VALUE};
    private static final Bench BENCH = new Bench();

    public static void main(String[] args) {
        closures();
        products();
        inverses();
        normals();
        equals();
        summits();
        conjugates();
        traces();
        exceptions();
        BENCH.finish();
    }

    private static String closure(int strands, String word) {
        KnotHouse house = new KnotHouse();
        return Bench.show(house, Bench.closure(house, strands, word));
    }

    private static void closures() {
        BENCH.due("of no letters", "|||||", () -> closure(5, ""));
        BENCH.due("a", "o0+u0+|", () -> closure(2, "a"));
        BENCH.due("A", "o0-u0-|", () -> closure(2, "A"));
        BENCH.due("a trefoil", "o0+u1+o2+u0+o1+u2+|", () -> closure(2, "aaa"));
        BENCH.due("a Hopf link and a circle", "o0+u1+|u0+o1+||", () -> closure(3, "bb"));
        BENCH.due("over at the lesser place", "o0+u0+u1+o2+|o1+u2+|", () -> closure(3, "aba"));
        BENCH.due("under at the lesser place", "o0+u0+o1-o2+|u1-u2+|", () -> closure(3, "abA"));
        KnotHouse house = new KnotHouse();
        Bench.braid(house, 5, "abcdABCDabcd");
        Bench.braid(house, 5, "abcdABCDabcda");
        BENCH.due("twelve letters", 12, () -> house.figure(house.closure(0), 0));
        BENCH.due("thirteen letters", Bench.UNSUPPORTED, () -> house.closure(1));
        BENCH.due("the braid stays", 12, () -> house.normal(0, 2));
    }

    private static void products() {
        KnotHouse house = new KnotHouse();
        Bench.braid(house, 3, "aaB");
        Bench.braid(house, 3, "bA");
        Bench.braid(house, 3, "aaBbA");
        Bench.braid(house, 4, "a");
        Bench.braid(house, 3, "aaaaaaaaaaaaaa");
        BENCH.due("product", 5, () -> house.product(0, 1));
        BENCH.due("its letters", 5, () -> house.normal(5, 2));
        BENCH.due("its strands", 3, () -> house.normal(5, 3));
        BENCH.due("the word", true, () -> house.alike(house.closure(5), house.closure(2)));
        BENCH.due("one with itself", 6, () -> house.normal(house.product(0, 0), 2));
        BENCH.due("sixteen letters", 16, () -> house.normal(house.product(4, 1), 2));
        BENCH.due("seventeen letters", Bench.UNSUPPORTED, () -> house.product(0, 4));
        BENCH.due("other strands", Bench.ARGUMENT, () -> house.product(0, 3));
        for (int place : NO_PLACES) {
            BENCH.due("product of " + place, Bench.INDEX, () -> house.product(place, 0));
            BENCH.due("product with " + place, Bench.INDEX, () -> house.product(0, place));
        }
    }

    private static void inverses() {
        KnotHouse house = new KnotHouse();
        Bench.braid(house, 4, "abCaab");
        Bench.braid(house, 4, "BAAcBA");
        Bench.braid(house, 4, "");
        BENCH.due("inverse", 3, () -> house.inverse(0));
        BENCH.due("the word from its end", true, () -> house.alike(house.closure(1), house.closure(3)));
        BENCH.due("is that", true, () -> house.equal(1, 3));
        BENCH.due("with it, nothing", true, () -> house.equal(2, house.product(0, 3)));
        BENCH.due("of nothing", 0, () -> house.normal(house.inverse(2), 2));
    }

    /** k, then each factor as the places to which it takes 0, 1, .. */
    private static String form(int strands, String word) {
        KnotHouse house = new KnotHouse();
        int b = Bench.braid(house, strands, word);
        StringBuilder all = new StringBuilder();
        all.append(house.normal(b, 0));
        for (int i = 1; i <= house.normal(b, 1); i++) {
            all.append(' ');
            for (int j = 0; j < strands; j++) {
                all.append(house.factor(b, i, j));
            }
        }
        int beyond = house.normal(b, 1) + 1;
        BENCH.due("factor 0", -1, () -> house.factor(b, 0, 0));
        BENCH.due("a factor more", -1, () -> house.factor(b, beyond, 0));
        BENCH.due("place -1", -1, () -> house.factor(b, 1, -1));
        BENCH.due("a place more", -1, () -> house.factor(b, 1, strands));
        return all.toString();
    }

    private static void normals() {
        BENCH.due("nothing", "0", () -> form(3, ""));
        BENCH.due("x X", "0", () -> form(3, "aA"));
        BENCH.due("delta", "1", () -> form(3, "aba"));
        BENCH.due("delta of two", "-3", () -> form(2, "AAA"));
        BENCH.due("a a", "0 102 102", () -> form(3, "aa"));
        BENCH.due("a b is simple", "0 201", () -> form(3, "ab"));
        BENCH.due("A", "-1 201", () -> form(3, "A"));
        BENCH.due("letters go to the factor before", "0 1032 1032", () -> form(4, "aacc"));
        BENCH.due("delta comes first", "1 021", () -> form(3, "aaba"));
        BENCH.due("five strands", "1 10234", () -> form(5, "dabacbadcba"));
        for (int far : FAR) {
            KnotHouse house = new KnotHouse();
            Bench.braid(house, 3, "aa");
            BENCH.due("factor " + far, -1, () -> house.factor(0, far, 0));
            BENCH.due("factor at " + far, -1, () -> house.factor(0, 1, far));
            BENCH.due("normal " + far, Bench.ARGUMENT, () -> house.normal(0, far));
        }
        KnotHouse house = new KnotHouse();
        Bench.braid(house, 4, "abC");
        BENCH.due("letters", 3, () -> house.normal(0, 2));
        BENCH.due("strands", 4, () -> house.normal(0, 3));
        BENCH.due("what 4", Bench.ARGUMENT, () -> house.normal(0, 4));
        BENCH.due("what -1", Bench.ARGUMENT, () -> house.normal(0, -1));
    }

    private static boolean equal(int strands, String one, String two) {
        KnotHouse house = new KnotHouse();
        return house.equal(Bench.braid(house, strands, one), Bench.braid(house, strands, two));
    }

    private static void equals() {
        BENCH.due("aba and bab", true, () -> equal(3, "aba", "bab"));
        BENCH.due("ABA and BAB", true, () -> equal(3, "ABA", "BAB"));
        BENCH.due("abA and Bab", true, () -> equal(3, "abA", "Bab"));
        BENCH.due("ac and ca", true, () -> equal(4, "ac", "ca"));
        BENCH.due("ab and ba", false, () -> equal(4, "ab", "ba"));
        BENCH.due("aBbA and nothing", true, () -> equal(4, "aBbA", ""));
        BENCH.due("a and A", false, () -> equal(2, "a", "A"));
        BENCH.due("the whole turn goes through", true, () -> equal(3, "abababb", "bababab"));
        BENCH.due("five strands", true, () -> equal(5, "adbD", "ab"));
        KnotHouse house = new KnotHouse();
        Bench.braid(house, 3, "a");
        Bench.braid(house, 4, "a");
        BENCH.due("itself", true, () -> house.equal(0, 0));
        BENCH.due("other strands", false, () -> house.equal(0, 1));
        for (int place : NO_PLACES) {
            BENCH.due("equal to " + place, false, () -> house.equal(place, 0));
            BENCH.due("equal to " + place, false, () -> house.equal(0, place));
            BENCH.due("equal to " + place, false, () -> house.equal(place, place));
        }
    }

    private static int summit(int strands, String word) {
        KnotHouse house = new KnotHouse();
        return house.summit(Bench.braid(house, strands, word));
    }

    private static void summits() {
        BENCH.due("nothing", 1, () -> summit(4, ""));
        BENCH.due("delta", 1, () -> summit(3, "aba"));
        BENCH.due("one letter of two strands", 1, () -> summit(2, "a"));
        BENCH.due("one letter", 2, () -> summit(3, "a"));
        BENCH.due("one letter of four strands", 3, () -> summit(4, "a"));
        BENCH.due("hidden in a longer word", 3, () -> summit(4, "abcaCBA"));
        BENCH.due("a b", 2, () -> summit(3, "ab"));
        BENCH.due("figure eight", 4, () -> summit(3, "aBaBaBaBaBaBaBaB"));
        BENCH.due("many", 192, () -> summit(4, "aBbBaBBaacaBA"));
        BENCH.due("of letters that change places", 2, () -> summit(4, "accacc"));
        BENCH.due("more than 200", KnotHouse.OPEN, () -> summit(4, "BBaaaCaccBBB"));
        BENCH.due("five strands", Bench.UNSUPPORTED, () -> summit(5, "a"));
    }

    private static int conjugate(int strands, String one, String two) {
        KnotHouse house = new KnotHouse();
        return house.conjugate(Bench.braid(house, strands, one), Bench.braid(house, strands, two));
    }

    private static void conjugates() {
        BENCH.due("a and b", 1, () -> conjugate(3, "a", "b"));
        BENCH.due("a and c", 1, () -> conjugate(4, "a", "c"));
        BENCH.due("a and A", 0, () -> conjugate(3, "a", "A"));
        BENCH.due("ab and ba", 1, () -> conjugate(3, "ab", "ba"));
        BENCH.due("aaBB turned", 1, () -> conjugate(3, "aaB", "baaBB"));
        BENCH.due("as many letters", 0, () -> conjugate(3, "aab", "aaa"));
        BENCH.due("a long one", 1, () -> conjugate(4, "abCbbaC", "CbAabCbbaCaBc"));
        BENCH.due("of one closure, not conjugate", 0, () -> conjugate(4, "aaabbC", "aaabbc"));
        BENCH.due("sets as large, factors more", 0, () -> conjugate(4, "ccc", "cccccc"));
        BENCH.due("sets of one each", 0, () -> conjugate(4, "BaaBCA", "acbAAb"));
        BENCH.due("a set is open", KnotHouse.OPEN, () -> conjugate(4, "BBaaaCaccBBB", "a"));
        BENCH.due("the other set is open", KnotHouse.OPEN, () -> conjugate(4, "a", "BBaaaCaccBBB"));
        BENCH.due("both are open", KnotHouse.OPEN, () -> conjugate(4, "cAccAABBcBAB", "BBaaaCaccBBB"));
        KnotHouse house = new KnotHouse();
        Bench.braid(house, 3, "a");
        Bench.braid(house, 4, "a");
        Bench.braid(house, 5, "a");
        BENCH.due("other strands", Bench.ARGUMENT, () -> house.conjugate(0, 1));
        BENCH.due("other strands, ahead of five", Bench.ARGUMENT, () -> house.conjugate(1, 2));
        BENCH.due("five strands", Bench.UNSUPPORTED, () -> house.conjugate(2, 2));
    }

    /** All numbers of the polynomial in x and z. */
    private static String trace(int strands, String word) {
        StringBuilder all = new StringBuilder();
        for (int i = -30; i <= 30; i++) {
            traceAt(strands, word, i, all);
        }
        KnotHouse house = new KnotHouse();
        int b = Bench.braid(house, strands, word);
        for (int i : FAR) {
            for (int j : FAR) {
                BENCH.due("two far away", 0, () -> house.two(b, i, j));
            }
        }
        return all.toString().trim();
    }

    /** The numbers at one power of x; a house for each, as one is made for 512 calls. */
    private static void traceAt(int strands, String word, int i, StringBuilder all) {
        KnotHouse house = new KnotHouse();
        int b = Bench.braid(house, strands, word);
        for (int j = -12; j <= 12; j++) {
            int number = house.two(b, i, j);
            if (number != 0) {
                all.append(number).append(" x^").append(i).append(" z^").append(j).append(' ');
            }
        }
    }

    private static void traces() {
        BENCH.due("a circle", "1 x^0 z^0", () -> trace(2, "a"));
        BENCH.due("two circles", "1 x^-1 z^-1 -1 x^1 z^-1", () -> trace(2, ""));
        BENCH.due("three circles", "1 x^-2 z^-2 -2 x^0 z^-2 1 x^2 z^-2", () -> trace(3, "aA"));
        BENCH.due("a trefoil", "2 x^2 z^0 1 x^2 z^2 -1 x^4 z^0", () -> trace(2, "aaa"));
        BENCH.due("its mirror", "-1 x^-4 z^0 2 x^-2 z^0 1 x^-2 z^2", () -> trace(2, "AAA"));
        BENCH.due("Hopf", "1 x^1 z^-1 1 x^1 z^1 -1 x^3 z^-1", () -> trace(2, "aa"));
        BENCH.due("figure eight", "1 x^-2 z^0 -1 x^0 z^0 -1 x^0 z^2 1 x^2 z^0", () -> trace(3, "aBaB"));
        BENCH.due("ten letters of five strands", "1 x^0 z^0", () -> trace(5, "abcdaAbBcC"));
        KnotHouse house = new KnotHouse();
        Bench.braid(house, 3, "aaaaaaaaaaa");
        Bench.braid(house, 3, "aaaaaaaaaa");
        BENCH.due("eleven letters", Bench.UNSUPPORTED, () -> house.two(0, 0, 0));
        BENCH.due("ten letters", 0, () -> house.two(1, 0, 0));
        Bench.fillDiagrams(house);
        BENCH.due("no diagram is made", 0, () -> house.two(1, 0, 0));
    }

    private static void exceptions() {
        KnotHouse house = new KnotHouse();
        Bench.braid(house, 5, "abcdABCDabcda");
        Bench.braid(house, 5, "ab");
        for (int place : NO_PLACES) {
            BENCH.due("closure of " + place, Bench.INDEX, () -> house.closure(place));
            BENCH.due("inverse of " + place, Bench.INDEX, () -> house.inverse(place));
            BENCH.due("normal of " + place, Bench.INDEX, () -> house.normal(place, 9));
            BENCH.due("factor of " + place, Bench.INDEX, () -> house.factor(place, 0, 0));
            BENCH.due("summit of " + place, Bench.INDEX, () -> house.summit(place));
            BENCH.due("conjugate to " + place, Bench.INDEX, () -> house.conjugate(place, 0));
            BENCH.due("conjugate to " + place, Bench.INDEX, () -> house.conjugate(0, place));
            BENCH.due("two of " + place, Bench.INDEX, () -> house.two(place, 0, 0));
        }
        Bench.fillBraids(house);
        Bench.fillDiagrams(house);
        BENCH.due("closure without place", Bench.STATE, () -> house.closure(1));
        BENCH.due("closure of 13 letters", Bench.UNSUPPORTED, () -> house.closure(0));
        BENCH.due("product without place", Bench.STATE, () -> house.product(1, 1));
        BENCH.due("product of 26 letters", Bench.UNSUPPORTED, () -> house.product(0, 0));
        BENCH.due("product of other strands", Bench.ARGUMENT, () -> house.product(0, 2));
        BENCH.due("inverse without place", Bench.STATE, () -> house.inverse(1));
        house.dropBraid(11);
        BENCH.due("the free place", 11, () -> house.inverse(1));
    }
}
