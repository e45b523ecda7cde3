/** Promises 1 to 5: a new object, feed, end, diagram, braid. */
public final class TextTest {
    private static final Bench BENCH = new Bench();

    public static void main(String[] args) {
        newObject();
        feedAndEnd();
        diagrams();
        faults();
        lateFaults();
        diagramWithoutPlace();
        braids();
        braidExceptions();
        BENCH.finish();
    }

    private static void newObject() {
        KnotHouse house = new KnotHouse();
        BENCH.due("NONE", -1, () -> KnotHouse.NONE);
        BENCH.due("OPEN", -2, () -> KnotHouse.OPEN);
        BENCH.due("end(0)", Bench.NOTHING, () -> Bench.end(house, 0));
        BENCH.due("end(1)", Bench.ARGUMENT, () -> Bench.end(house, 1));
        for (int i = -1; i <= 40; i++) {
            int place = i;
            BENCH.due("alike of none", false, () -> house.alike(place, place));
            BENCH.due("equal of none", false, () -> house.equal(place, place));
        }
        BENCH.due("moved of none", Bench.INDEX, () -> house.moved(0));
        BENCH.due("summand of none", Bench.INDEX, () -> house.summand(0));
        BENCH.due("rank of none", 0, () -> house.rank(0, 1));
        BENCH.due("rank of none", 0, () -> house.rank(0, 0));
        BENCH.due("the empty tape", 0, house::diagram);
        BENCH.due("one circle", "|", () -> Bench.show(house, 0));
    }

    private static void feedAndEnd() {
        KnotHouse house = new KnotHouse();
        for (int i = 1; i <= 20; i++) {
            int have = 20 * i;
            BENCH.due("feed", have, () -> house.feed(-1, 0, 1, Integer.MIN_VALUE, Integer.MAX_VALUE));
        }
        BENCH.due("feed beyond 400", Bench.STATE, () -> house.feed(1, 2, 3, 4, 5));
        BENCH.due("end(401)", Bench.ARGUMENT, () -> Bench.end(house, 401));
        BENCH.due("end(-1)", Bench.ARGUMENT, () -> Bench.end(house, -1));
        BENCH.due("end(400)", Bench.NOTHING, () -> Bench.end(house, 400));
        BENCH.due("end(381)", Bench.NOTHING, () -> Bench.end(house, 381));
        BENCH.due("feed to 401", Bench.STATE, () -> house.feed(1, 2, 3, 4, 5));
        BENCH.due("end(382)", Bench.ARGUMENT, () -> Bench.end(house, 382));
        BENCH.due("end(380)", Bench.NOTHING, () -> Bench.end(house, 380));
        BENCH.due("feed to 400", 400, () -> house.feed(1, 2, 3, 4, 5));
        BENCH.due("end(0)", Bench.NOTHING, () -> Bench.end(house, 0));
        // The highest byte of a number comes first: o1+u 1+..
        BENCH.due("feed", 20, () -> house.feed(0x6f312b75, 0x312b0000, 0, 0, 0));
        BENCH.due("end(6)", Bench.NOTHING, () -> Bench.end(house, 6));
        BENCH.due("a loop", 0, house::diagram);
        BENCH.due("its code", "o0+u0+|", () -> Bench.show(house, 0));
        BENCH.due("the tape is used up", Bench.ARGUMENT, () -> Bench.end(house, 1));
    }

    private static void diagrams() {
        KnotHouse house = new KnotHouse();
        BENCH.due("trefoil", 0, () -> Bench.diagram(house, "u99+o7+u10+o99+u7+o10+"));
        BENCH.due("its code", "o0+u1+o2+u0+o1+u2+|", () -> Bench.show(house, 0));
        BENCH.due("circles", 1, () -> Bench.diagram(house, ";;;;;"));
        BENCH.due("six circles", "||||||", () -> Bench.show(house, 1));
        BENCH.due("parts", 2, () -> Bench.diagram(house, ";o5-u5-;u2+o1+;o2+u1+;u3+o3+"));
        BENCH.due("the lesser part first", "o0+u0+|o1-u1-|o2+u3+|u2+o3+||", () -> Bench.show(house, 2));
        String twelve = "o1+u1+o2+u2+o3+u3+o4+u4+o5+u5+o6+u6+o7+u7+o8+u8+o9+u9+o10+u10+o11+u11+o12+u12+";
        BENCH.due("twelve crossings", 3, () -> Bench.diagram(house, twelve));
        BENCH.due("twelve crossings", 12, () -> house.figure(3, 0));
        BENCH.due("a 13th name", -1 - twelve.length(), () -> Bench.diagram(house, twelve + "o13+u13+"));
        house.drop(1);
        BENCH.due("the least free place", 1, () -> Bench.diagram(house, Bench.HOPF));
    }

    private static void fault(String text, int place) {
        KnotHouse house = new KnotHouse();
        BENCH.due("diagram of " + text, -1 - place, () -> Bench.diagram(house, text));
        BENCH.due("the tape behind " + text, Bench.ARGUMENT, () -> Bench.end(house, 1));
        BENCH.due("no diagram of " + text, false, () -> house.alike(0, 0));
    }

    private static void faults() {
        fault("x", 0);
        fault("o", 1);
        fault("o1", 2);
        fault("o12", 3);
        fault("o1+u", 4);
        fault("o0+", 1);
        fault("o01+", 1);
        fault("o123+", 3);
        fault("o1*", 2);
        fault("o1+ u1+", 3);
        fault("O1+", 0);
        fault("o1;", 2);
        fault("o+", 1);
        fault("\u00ff", 0);
        fault("o1+o1+", 3);
        fault("o1+u1-", 3);
        fault("o1+u1+o1+", 6);
        fault("o1+u1+u1-", 6);
        fault("o1+o1", 5);
        fault("o1+o1*", 5);
        fault(";;;;;;", 5);
        fault("o1+;;;;;;x", 8);
    }

    private static void lateFaults() {
        fault("o1+", 0);
        fault("o1+u1+u2-", 6);
        fault("u2-o1+u1+", 0);
        fault("o1+u1+;o3+u2-", 7);
        // A later byte that cannot stand comes before what is seen at the end alone.
        fault("o1+x", 3);
        fault("o1+u2+u1+o2+", 12);
        fault("o1+;u1+", 7);
        fault("o1+o2+u1+u2+", 12);
    }

    private static void diagramWithoutPlace() {
        KnotHouse house = new KnotHouse();
        Bench.fillDiagrams(house);
        Bench.feed(house, "x");
        BENCH.due("no place, ahead of the fault", Bench.STATE, house::diagram);
        BENCH.due("the tape stays", Bench.NOTHING, () -> Bench.end(house, 1));
        house.drop(17);
        BENCH.due("the fault", -1, house::diagram);
        BENCH.due("the place", 17, house::diagram);
    }

    private static void braids() {
        KnotHouse house = new KnotHouse();
        BENCH.due("empty", 0, () -> Bench.braid(house, 2, ""));
        BENCH.due("sixteen letters", 1, () -> Bench.braid(house, 5, "abcdABCDabcdABCD"));
        BENCH.due("a 17th letter", -17, () -> Bench.braid(house, 5, "abcdABCDabcdABCDa"));
        BENCH.due("a 17th letter, ahead of a later byte", -17, () -> Bench.braid(house, 2, "aaaaaaaaaaaaaaaa.."));
        BENCH.due("a byte ahead of the 17th letter", -4, () -> Bench.braid(house, 2, "aAabaaaaaaaaaaaaaa"));
        BENCH.due("the tape is used up", Bench.ARGUMENT, () -> Bench.end(house, 1));
        BENCH.due("b of two strands", -2, () -> Bench.braid(house, 2, "ab"));
        BENCH.due("C of three strands", -1, () -> Bench.braid(house, 3, "C"));
        BENCH.due("d of four strands", -1, () -> Bench.braid(house, 4, "d"));
        BENCH.due("e of five strands", -3, () -> Bench.braid(house, 5, "dDe"));
        BENCH.due("a digit", -1, () -> Bench.braid(house, 3, "1"));
        BENCH.due("letters", 16, () -> house.normal(1, 2));
        BENCH.due("strands", 5, () -> house.normal(1, 3));
        BENCH.due("no letters", 0, () -> house.normal(0, 2));
        house.dropBraid(0);
        BENCH.due("the least free place", 0, () -> Bench.braid(house, 4, "cC"));
    }

    private static void braidExceptions() {
        KnotHouse house = new KnotHouse();
        Bench.fillBraids(house);
        Bench.feed(house, "?");
        for (int n : new int[] {1, 6, 0, -1, Integer.MAX_VALUE, Integer.MIN_VALUE}) {
            BENCH.due("strands, ahead of the place", Bench.ARGUMENT, () -> house.braid(n));
        }
        BENCH.due("no place, ahead of the fault", Bench.STATE, () -> house.braid(2));
        BENCH.due("the tape stays", Bench.NOTHING, () -> Bench.end(house, 1));
        house.dropBraid(19);
        BENCH.due("the fault", -1, () -> house.braid(2));
        BENCH.due("the place", 19, () -> house.braid(2));
    }
}
