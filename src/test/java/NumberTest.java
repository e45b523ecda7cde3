/** Promises 24 to 31: conway, jones, signature, cover, colours, maps, chain, rank. */
public final class NumberTest {
    private static final int[] NO_PLACES = {-1, 40, 30, Integer.MIN_VALUE, Integer.MAX_VALUE};
    private static final int[] FAR = {-2, 1000, Integer.MIN_VALUE, Integer.MAX_VALUE};
    private static final Bench BENCH = new Bench();

    public static void main(String[] args) {
        conways();
        joneses();
        signatures();
        covers();
        colourings();
        mapCounts();
        chains();
        ranksStay();
        exceptions();
        BENCH.finish();
    }

    private static String conway(int strands, String word) {
        KnotHouse house = new KnotHouse();
        int d = Bench.closure(house, strands, word);
        StringBuilder all = new StringBuilder();
        for (int k = 0; k <= 12; k++) {
            if (house.conway(d, k) != 0) {
                all.append(house.conway(d, k)).append(" z^").append(k).append(' ');
            }
        }
        for (int k : FAR) {
            BENCH.due("conway at " + k, 0, () -> house.conway(d, k));
        }
        return all.toString().trim();
    }

    private static void conways() {
        BENCH.due("a circle", "1 z^0", () -> conway(2, "a"));
        BENCH.due("two circles", "", () -> conway(2, ""));
        BENCH.due("two circles that can be drawn apart", "", () -> conway(2, "aA"));
        BENCH.due("a trefoil", "1 z^0 1 z^2", () -> conway(2, "aaa"));
        BENCH.due("its mirror", "1 z^0 1 z^2", () -> conway(2, "AAA"));
        BENCH.due("figure eight", "1 z^0 -1 z^2", () -> conway(3, "aBaB"));
        BENCH.due("Hopf", "1 z^1", () -> conway(2, "aa"));
        BENCH.due("Hopf, mirrored", "-1 z^1", () -> conway(2, "AA"));
        BENCH.due("five", "1 z^0 3 z^2 1 z^4", () -> conway(2, "aaaaa"));
        BENCH.due("Whitehead", "-1 z^3", () -> conway(3, "aaBaB"));
        BENCH.due("Borromean", "1 z^4", () -> conway(3, "aBaBaB"));
        BENCH.due("a Hopf link and a circle", "", () -> conway(3, "aa"));
        BENCH.due("twelve crossings", "6 z^1 35 z^3 56 z^5 36 z^7 10 z^9 1 z^11", () -> conway(2, "aaaaaaaaaaaa"));
    }

    private static String jones(int strands, String word) {
        KnotHouse house = new KnotHouse();
        int d = Bench.closure(house, strands, word);
        StringBuilder all = new StringBuilder();
        for (int k = -120; k <= 120; k++) {
            if (house.jones(d, k) != 0) {
                all.append(house.jones(d, k)).append(" A^").append(k).append(' ');
            }
        }
        for (int k : new int[] {121, -121, Integer.MIN_VALUE, Integer.MAX_VALUE}) {
            BENCH.due("jones at " + k, 0, () -> house.jones(d, k));
        }
        return all.toString().trim();
    }

    private static void joneses() {
        BENCH.due("a circle", "1 A^0", () -> jones(2, "A"));
        BENCH.due("three circles", "1 A^-4 2 A^0 1 A^4", () -> jones(3, ""));
        BENCH.due("a trefoil", "-1 A^-16 1 A^-12 1 A^-4", () -> jones(2, "aaa"));
        BENCH.due("its mirror", "1 A^4 1 A^12 -1 A^16", () -> jones(2, "AAA"));
        BENCH.due("figure eight", "1 A^-8 -1 A^-4 1 A^0 -1 A^4 1 A^8", () -> jones(3, "aBaB"));
        BENCH.due("Hopf", "-1 A^-10 -1 A^-2", () -> jones(2, "aa"));
        BENCH.due("Hopf and a circle", "1 A^-12 1 A^-8 1 A^-4 1 A^0", () -> jones(3, "aa"));
        BENCH.due("Borromean", "-1 A^-12 3 A^-8 -2 A^-4 4 A^0 -2 A^4 3 A^8 -1 A^12", () -> jones(3, "aBaBaB"));
    }

    private static int signature(int strands, String word) {
        KnotHouse house = new KnotHouse();
        return house.signature(Bench.closure(house, strands, word));
    }

    private static void signatures() {
        BENCH.due("a circle", 0, () -> signature(2, "a"));
        BENCH.due("circles", 0, () -> signature(5, ""));
        BENCH.due("a trefoil", -2, () -> signature(2, "aaa"));
        BENCH.due("its mirror", 2, () -> signature(2, "AAA"));
        BENCH.due("figure eight", 0, () -> signature(3, "aBaB"));
        BENCH.due("Hopf", -1, () -> signature(2, "aa"));
        BENCH.due("two Hopf links apart", -2, () -> signature(4, "aacc"));
        BENCH.due("unlike ones apart", 0, () -> signature(4, "aaCC"));
        BENCH.due("five", -4, () -> signature(2, "aaaaa"));
        BENCH.due("twelve", -11, () -> signature(2, "aaaaaaaaaaaa"));
        BENCH.due("three and four strands' turn", -6, () -> signature(3, "abababab"));
        BENCH.due("with eigenvalue 0", 0, () -> signature(2, "aA"));
    }

    private static String cover(int strands, String word) {
        KnotHouse house = new KnotHouse();
        int d = Bench.closure(house, strands, word);
        StringBuilder all = new StringBuilder();
        for (int k = 0; k < 20; k++) {
            if (house.cover(d, k) != KnotHouse.NONE) {
                all.append(house.cover(d, k)).append(' ');
            }
        }
        for (int k : new int[] {-1, Integer.MIN_VALUE, Integer.MAX_VALUE, 100}) {
            BENCH.due("cover " + k, KnotHouse.NONE, () -> house.cover(d, k));
        }
        return all.toString().trim();
    }

    private static void covers() {
        BENCH.due("a circle", "", () -> cover(2, "a"));
        BENCH.due("three circles", "0 0", () -> cover(3, ""));
        BENCH.due("a trefoil", "3", () -> cover(2, "aaa"));
        BENCH.due("figure eight", "5", () -> cover(3, "aBaB"));
        BENCH.due("Hopf links", "2 2", () -> cover(3, "aabb"));
        BENCH.due("Hopf links apart", "2 2 0", () -> cover(4, "aacc"));
        BENCH.due("Borromean", "4 4", () -> cover(3, "aBaBaB"));
        BENCH.due("two trefoils", "3 3", () -> cover(3, "aaabbb"));
        BENCH.due("three and five", "15", () -> cover(3, "aaabbbbb"));
        BENCH.due("two and four", "2 4", () -> cover(3, "aabbbb"));
        BENCH.due("four and six", "2 12", () -> cover(3, "aaaabbbbbb"));
        BENCH.due("twelve", "12", () -> cover(2, "aaaaaaaaaaaa"));
    }

    private static long colours(int strands, String word, int m) {
        KnotHouse house = new KnotHouse();
        return house.colours(Bench.closure(house, strands, word), m);
    }

    private static void colourings() {
        BENCH.due("a trefoil, 1", 1, () -> colours(2, "aaa", 1));
        BENCH.due("a trefoil, 2", 2, () -> colours(2, "aaa", 2));
        BENCH.due("a trefoil, 3", 9, () -> colours(2, "aaa", 3));
        BENCH.due("a trefoil, 15", 45, () -> colours(2, "aaa", 15));
        BENCH.due("figure eight, 100", 500, () -> colours(3, "aBaB", 100));
        BENCH.due("Borromean, 100", 1600, () -> colours(3, "aBaBaB", 100));
        BENCH.due("circles, 100", 10000000000L, () -> colours(5, "", 100));
        BENCH.due("Hopf links apart, 100", 40000, () -> colours(4, "aacc", 100));
    }

    private static int maps(int strands, String word, int m) {
        KnotHouse house = new KnotHouse();
        return house.maps(Bench.closure(house, strands, word), m);
    }

    private static int mapsOf(String text, int m) {
        KnotHouse house = new KnotHouse();
        return house.maps(Bench.diagram(house, text), m);
    }

    private static void mapCounts() {
        BENCH.due("of one thing", 1, () -> maps(3, "aaBB", 1));
        BENCH.due("a trefoil, 2", 2, () -> maps(2, "aaa", 2));
        BENCH.due("a trefoil, 3", 12, () -> maps(2, "aaa", 3));
        BENCH.due("a trefoil, 4", 96, () -> maps(2, "aaa", 4));
        BENCH.due("figure eight, 4", 48, () -> maps(3, "aBaB", 4));
        BENCH.due("five, 4", 24, () -> maps(2, "aaaaa", 4));
        BENCH.due("Hopf, 3", 18, () -> maps(2, "aa", 3));
        BENCH.due("Hopf, 4", 120, () -> maps(2, "aa", 4));
        BENCH.due("two circles, over each other, 4", 576, () -> maps(2, "aA", 4));
        BENCH.due("Hopf and a circle, 4", 2880, () -> maps(3, "aa", 4));
        BENCH.due("four circles, 4", 331776, () -> maps(4, "", 4));
        BENCH.due("Borromean, 4", 3168, () -> maps(3, "aBaBaB", 4));
        BENCH.due("Hopf links, 4", 1032, () -> maps(3, "aabb", 4));
        BENCH.due("two components and a circle, 3", 144,
            () -> mapsOf("o1-o2-u3-o4-u5-u1-o6-u7-;u2-o3-u4-u6-o7-o5-;", 3));
        BENCH.due("two components, 2", 4, () -> mapsOf("o1+u2-o3-u1+o4-u5-u6-u3-o2-o6-;u4-o5-", 2));
        BENCH.due("seven crossings", 24, () -> maps(2, "aaaaaaa", 4));
        BENCH.due("eight crossings", Bench.UNSUPPORTED, () -> maps(2, "aaaaaaaa", 4));
        BENCH.due("five components", Bench.UNSUPPORTED, () -> maps(5, "", 4));
        BENCH.due("m is looked at first", Bench.ARGUMENT, () -> maps(5, "", 5));
    }

    /** The sum, then each rank that is not 0. */
    private static String chain(int strands, String word, int p) {
        StringBuilder all = new StringBuilder();
        all.append(sumOf(strands, word, p)).append(':');
        for (int i = -9; i <= 9; i++) {
            ranksAt(strands, word, p, i, all);
        }
        return all.toString();
    }

    /** The ranks of one H; a house for each, as one is made for 512 calls. */
    private static void ranksAt(int strands, String word, int p, int i, StringBuilder all) {
        KnotHouse house = new KnotHouse();
        house.chain(Bench.closure(house, strands, word), p);
        for (int q = -30; q <= 30; q++) {
            int rank = house.rank(i, q);
            if (rank != 0) {
                all.append(' ').append(i).append(',').append(q).append(' ').append(rank);
            }
        }
    }

    private static void chains() {
        BENCH.due("a circle", "2: 0,-1 1 0,1 1", () -> chain(2, "a", 2));
        BENCH.due("two circles", "4: 0,-2 1 0,0 2 0,2 1", () -> chain(2, "aA", 3));
        BENCH.due("a trefoil, 2", "6: 0,1 1 0,3 1 2,5 1 2,7 1 3,7 1 3,9 1", () -> chain(2, "aaa", 2));
        BENCH.due("a trefoil, 3", "4: 0,1 1 0,3 1 2,5 1 3,9 1", () -> chain(2, "aaa", 3));
        BENCH.due("its mirror, 997", "4: -3,-9 1 -2,-5 1 0,-3 1 0,-1 1", () -> chain(2, "AAA", 997));
        BENCH.due("Hopf", "4: 0,0 1 0,2 1 2,4 1 2,6 1", () -> chain(2, "aa", 5));
        BENCH.due("figure eight, 3", "6: -2,-5 1 -1,-1 1 0,-1 1 0,1 1 1,1 1 2,5 1", () -> chain(3, "aBaB", 3));
        BENCH.due("Hopf links apart", "16: 0,0 1 0,2 2 0,4 1 2,4 2 2,6 4 2,8 2 4,8 1 4,10 2 4,12 1",
            () -> chain(4, "aacc", 2));
        BENCH.due("eight crossings", 16, () -> sumOf(2, "aaaaaaaa", 2));
        BENCH.due("eight crossings, 3", 10, () -> sumOf(2, "aaaaaaaa", 3));
        BENCH.due("nine crossings", Bench.UNSUPPORTED, () -> sumOf(2, "aaaaaaaaa", 2));
        BENCH.due("eight crossings, two parts", Bench.UNSUPPORTED, () -> sumOf(3, "aaaaaaaa", 2));
        BENCH.due("seven crossings, two parts", true, () -> sumOf(3, "aaaaaaa", 2) > 0);
        BENCH.due("p is looked at first", Bench.ARGUMENT, () -> sumOf(2, "aaaaaaaaa", 4));
        for (int p : new int[] {-7, -1, 0, 1, 4, 9, 91, 961, 998, 999, 1009, Integer.MAX_VALUE, Integer.MIN_VALUE}) {
            BENCH.due("no prime " + p, Bench.ARGUMENT, () -> sumOf(2, "aaa", p));
        }
    }

    private static int sumOf(int strands, String word, int p) {
        KnotHouse house = new KnotHouse();
        return house.chain(Bench.closure(house, strands, word), p);
    }

    private static void ranksStay() {
        KnotHouse house = new KnotHouse();
        int d = Bench.closure(house, 2, "aaa");
        int far = Bench.closure(house, 2, "aaaaaaaaa");
        BENCH.due("without chain", 0, () -> house.rank(0, 1));
        house.chain(d, 2);
        BENCH.due("of 2", 1, () -> house.rank(3, 7));
        BENCH.due("too many crossings", Bench.UNSUPPORTED, () -> house.chain(far, 2));
        BENCH.due("no prime", Bench.ARGUMENT, () -> house.chain(d, 6));
        house.drop(d);
        BENCH.due("no diagram", Bench.INDEX, () -> house.chain(d, 2));
        BENCH.due("of 2 still", 1, () -> house.rank(3, 7));
        house.chain(Bench.diagram(house, Bench.TREFOIL), 3);
        BENCH.due("of 3", 0, () -> house.rank(3, 7));
        for (int far1 : FAR) {
            for (int far2 : FAR) {
                BENCH.due("rank far away", 0, () -> house.rank(far1, far2));
            }
        }
    }

    private static void exceptions() {
        KnotHouse house = new KnotHouse();
        int d = Bench.diagram(house, Bench.TREFOIL);
        for (int place : NO_PLACES) {
            BENCH.due("conway of " + place, Bench.INDEX, () -> house.conway(place, 0));
            BENCH.due("jones of " + place, Bench.INDEX, () -> house.jones(place, 0));
            BENCH.due("signature of " + place, Bench.INDEX, () -> house.signature(place));
            BENCH.due("cover of " + place, Bench.INDEX, () -> house.cover(place, 0));
            BENCH.due("colours of " + place, Bench.INDEX, () -> house.colours(place, 0));
            BENCH.due("maps of " + place, Bench.INDEX, () -> house.maps(place, 0));
            BENCH.due("chain of " + place, Bench.INDEX, () -> house.chain(place, 1));
        }
        for (int m : new int[] {0, -1, 101, Integer.MIN_VALUE, Integer.MAX_VALUE}) {
            BENCH.due("colours modulo " + m, Bench.ARGUMENT, () -> house.colours(d, m));
        }
        for (int m : new int[] {0, -1, 5, Integer.MIN_VALUE, Integer.MAX_VALUE}) {
            BENCH.due("permutations of " + m, Bench.ARGUMENT, () -> house.maps(d, m));
        }
    }
}
