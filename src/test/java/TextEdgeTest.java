/**
 * The edges that the document names in its terms, in section 2 and in promises 1 to 5. Above each test stand the words
 * that it holds the class to.
 */
public final class TextEdgeTest {
    private static final int[] FAR = {Integer.MIN_VALUE, Integer.MAX_VALUE};
    private static final String TWELVE =
        "o1+u1+o2+u2+;o3+u3+o4+u4+;o5+u5+o6+u6+;o7+u7+o8+u8+;o9+u9+o10+u10+;o11+u11+o12+u12+";
    private static final Bench BENCH = new Bench();

    public static void main(String[] args) {
        mostComponentsAndCrossings();
        mostInOnePart();
        lastCall();
        roundRows();
        circles();
        partsInCommon();
        eachPartIsPlane();
        orderOfParts();
        orderOfComponents();
        placesOfDiagrams();
        placesOfBraids();
        newObject();
        tapeIsFull();
        bytesOfNumbers();
        feedBehindWhatIsCut();
        cuts();
        whatIsCutIsGone();
        tapeIsUsedUp();
        bytesThatCannotStand();
        namesAndDigits();
        endsWithinVisit();
        visitsThatCannotStand();
        thirteenthName();
        seventhComponent();
        fromTheLeft();
        namesWithoutOther();
        notPlane();
        diagramWithoutPlace();
        lettersOfBraids();
        seventeenthLetter();
        strandsOfBraids();
        braidWithoutPlace();
        BENCH.finish();
    }

    /** "A DIAGRAM has 1 to 6 COMPONENTS, .. and at most 12 CROSSINGS." */
    private static void mostComponentsAndCrossings() {
        KnotHouse house = new KnotHouse();
        BENCH.due("one component", 0, () -> Bench.diagram(house, ""));
        BENCH.due("one component", 1, () -> house.figure(0, 1));
        BENCH.due("six components with twelve crossings", 1, () -> Bench.diagram(house, TWELVE));
        BENCH.due("six components", 6, () -> house.figure(1, 1));
        BENCH.due("twelve crossings", 12, () -> house.figure(1, 0));
        BENCH.due("six parts", 6, () -> house.figure(1, 3));
        BENCH.due("the last visit", 5, () -> house.visit(1, 23, 0));
        BENCH.due("the last visit", 11, () -> house.visit(1, 23, 1));
        fault(TWELVE + ";", TWELVE.length());
        fault(TWELVE + "o13+u13+", TWELVE.length());
    }

    /** As many components and crossings as there can be in one part, of which the code is as long as can be. */
    private static void mostInOnePart() {
        String row = "o1+u2+;u1+o2+o3+u4+;u3+o4+o5+u6+;u5+o6+o7+u8+;u7+o8+o9+u10+;u9+o10+o11+u11+o12+u12+";
        KnotHouse house = new KnotHouse();
        BENCH.due("a row of six components", 0, () -> Bench.diagram(house, row));
        BENCH.due("its code", "o0+u0+o1+u1+u2+o3+|o2+u3+u4+o5+|o4+u5+u6+o7+|o6+u7+u8+o9+|o8+u9+u10+o11+|o10+u11+|",
            () -> Bench.show(house, 0));
        BENCH.due("one part", 1, () -> house.figure(0, 3));
        BENCH.due("its summands", 7, () -> house.summands(0));
        BENCH.due("its mirror, twice", true, () -> house.alike(0, house.mirror(house.mirror(0))));
    }

    /** "An object is used for at most 512 calls after it has been made": the 512th still counts. */
    private static void lastCall() {
        KnotHouse house = new KnotHouse();
        int d = Bench.diagram(house, Bench.TREFOIL);
        for (int calls = 3; calls < 510; calls++) {
            house.figure(d, calls % 6);
        }
        BENCH.due("call 511", 1, () -> house.mirror(d));
        BENCH.due("call 512", -3, () -> house.figure(1, 4));
    }

    /** "each a round row of VISITS (the last has the first behind it)". */
    private static void roundRows() {
        String[] visits = {"o1+", "u2+", "o3+", "u1+", "o2+", "u3+"};
        for (int start = 0; start < visits.length; start++) {
            StringBuilder row = new StringBuilder();
            for (int i = 0; i < visits.length; i++) {
                row.append(visits[(start + i) % visits.length]);
            }
            BENCH.due("from " + row, "o0+u1+o2+u0+o1+u2+|", () -> code(row.toString()));
        }
        BENCH.due("a loop over the end of the row", "o0+u0+|", () -> code("u1+o1+"));
    }

    /** "A COMPONENT without VISITS is a CIRCLE"; "nothing there: a CIRCLE; so the empty text is one CIRCLE". */
    private static void circles() {
        BENCH.due("the empty text", "|", () -> code(""));
        BENCH.due("nothing behind", "o0+u0+||", () -> code("o1+u1+;"));
        BENCH.due("nothing before", "o0+u0+||", () -> code(";o1+u1+"));
        BENCH.due("nothing between", "o0+u0+|o1+u1+||", () -> code("o1+u1+;;o2+u2+"));
        BENCH.due("nothing six times", "||||||", () -> code(";;;;;"));
        KnotHouse house = new KnotHouse();
        Bench.diagram(house, ";o1+u1+;");
        BENCH.due("two circles", 2, () -> house.figure(0, 2));
    }

    /** "COMPONENTS with a CROSSING in common are in one PART, and so on; a CIRCLE is a PART alone." */
    private static void partsInCommon() {
        KnotHouse house = new KnotHouse();
        BENCH.due("a row of four components", 1, () -> house.figure(Bench.closure(house, 4, "aabbcc"), 3));
        BENCH.due("two and two", 2, () -> house.figure(Bench.closure(house, 4, "aacc"), 3));
        BENCH.due("two, and a circle", 2, () -> house.figure(Bench.closure(house, 3, "aa"), 3));
        BENCH.due("circles", 5, () -> house.figure(Bench.closure(house, 5, ""), 3));
    }

    /** "PLANE: each PART with c CROSSINGS, c above 0, has c + 2 FACES." */
    private static void eachPartIsPlane() {
        fault("o1+u1+;o2+u3+u2+o3+", 19);
        fault("o2+u3+u2+o3+;o1+u1+", 19);
        fault("o1+u2+u1+o2+;;", 14);
        fault("o1+;u1+", 7);
    }

    /** "fewer CROSSINGS first, but CIRCLES last; of as many CROSSINGS the lesser CODE first." */
    private static void orderOfParts() {
        BENCH.due("parts", "o0+u0+|o1-u1-|o2+u3+o4+u2+o3+u4+||",
            () -> code(";" + Bench.TREFOIL + ";o4-u4-;o5+u5+"));
        BENCH.due("more components, the greater code", "o0+u0+u1-o1-|o2+u3+|u2+o3+|",
            () -> code(Bench.HOPF + ";o3+u3+u4-o4-"));
        BENCH.due("more components, the lesser code", "o0+o1-|u0+u1-|o2+u3+|u2+o3+|",
            () -> code(Bench.HOPF + ";o3+o4-;u3+u4-"));
    }

    /** "of the CROSSINGS come to so far, the one come to first whose other VISIT is in a COMPONENT not gone around". */
    private static void orderOfComponents() {
        BENCH.due("three", "o0+o1+u2+u3+|u0+o3+|u1+o2+|", () -> code("u4+o1+;u1+u2+o3+o4+;o2+u3+"));
        KnotHouse house = new KnotHouse();
        BENCH.due("four in a row", "o0+o1+u2+u3+|u0+o3+|u1+o2+o4+u5+|u4+o5+|",
            () -> Bench.show(house, Bench.closure(house, 4, "aabbcc")));
    }

    /** "DIAGRAMS have PLACES 0 .. 39 ..; a new one comes to the least free PLACE." */
    private static void placesOfDiagrams() {
        KnotHouse house = new KnotHouse();
        for (int i = 0; i < 40; i++) {
            BENCH.due("diagram " + i, i, house::diagram);
        }
        BENCH.due("a 41st", Bench.STATE, house::diagram);
        house.drop(39);
        house.drop(5);
        house.drop(0);
        house.drop(3);
        int[] places = {0, 3, 5, 39};
        for (int place : places) {
            BENCH.due("the least free place", place, house::diagram);
        }
        BENCH.due("none is free", Bench.STATE, house::diagram);
    }

    /** "BRAIDS 0 .. 19; a new one comes to the least free PLACE." */
    private static void placesOfBraids() {
        KnotHouse house = new KnotHouse();
        for (int i = 0; i < 20; i++) {
            BENCH.due("braid " + i, i, () -> house.braid(2));
        }
        BENCH.due("a 21st", Bench.STATE, () -> house.braid(2));
        house.dropBraid(19);
        house.dropBraid(4);
        house.dropBraid(0);
        int[] places = {0, 4, 19};
        for (int place : places) {
            BENCH.due("the least free place", place, () -> house.braid(2));
        }
        BENCH.due("none is free", Bench.STATE, () -> house.braid(2));
    }

    /** "No DIAGRAMS, no BRAIDS, an empty TAPE." */
    private static void newObject() {
        KnotHouse house = new KnotHouse();
        for (int i = 0; i < 40; i++) {
            int place = i;
            BENCH.due("no diagram " + i, false, () -> house.drop(place));
            BENCH.due("no braid " + i, false, () -> house.dropBraid(place));
        }
        BENCH.due("no byte", Bench.ARGUMENT, () -> Bench.end(house, 1));
        BENCH.due("an empty word", 0, () -> house.braid(3));
        BENCH.due("of no letters", 0, () -> house.normal(0, 2));
    }

    /** "IllegalState: it would have more than 400." */
    private static void tapeIsFull() {
        KnotHouse house = new KnotHouse();
        for (int have = 20; have <= 400; have += 20) {
            BENCH.due("feed", have, () -> house.feed(0, 0, 0, 0, 0));
        }
        BENCH.due("420", Bench.STATE, () -> house.feed(0, 0, 0, 0, 0));
        BENCH.due("still 400", Bench.ARGUMENT, () -> Bench.end(house, 401));
        house.end(381);
        BENCH.due("401", Bench.STATE, () -> house.feed(0, 0, 0, 0, 0));
        BENCH.due("still 381", Bench.ARGUMENT, () -> Bench.end(house, 382));
        house.end(380);
        BENCH.due("400", 400, () -> house.feed(0, 0, 0, 0, 0));
        house.end(1);
        BENCH.due("21", 21, () -> house.feed(0, 0, 0, 0, 0));
    }

    /** "Twenty bytes come behind THE TAPE, of each number the highest first". */
    private static void bytesOfNumbers() {
        KnotHouse house = new KnotHouse();
        // o1+u 2+o3 +u1+ o2+u 3+;o
        house.feed(0x6f312b75, 0x322b6f33, 0x2b75312b, 0x6f322b75, 0x332b3b6f);
        house.end(19);
        BENCH.due("all five numbers", 0, house::diagram);
        BENCH.due("in their order", "o0+u1+o2+u0+o1+u2+||", () -> Bench.show(house, 0));
        house.feed(0x61626364, 0x64636261, 0x41424344, 0x44434241, 0x61000000);
        BENCH.due("the 17th letter", -17, () -> house.braid(5));
        house.feed(0xe1e1e1e1, -1, -1, -1, -1);
        BENCH.due("a byte of 128 and more is no letter", -1, () -> house.braid(5));
        house.feed(0xef312b75, 0x312b0000, 0, 0, 0);
        BENCH.due("a byte of 128 and more is no visit", -1, house::diagram);
    }

    private static void feedBehindWhatIsCut() {
        KnotHouse house = new KnotHouse();
        Bench.feed(house, "o1+u");
        BENCH.due("bytes come behind four", 24, () -> house.feed(0x312b0000, 0, 0, 0, 0));
        house.end(6);
        BENCH.due("what was cut is gone", 0, house::diagram);
        BENCH.due("the text", "o0+u0+|", () -> Bench.show(house, 0));
    }

    /** "IllegalArgument: n is below 0, or more than it has." */
    private static void cuts() {
        KnotHouse house = new KnotHouse();
        BENCH.due("nothing of nothing", Bench.NOTHING, () -> Bench.end(house, 0));
        BENCH.due("below 0", Bench.ARGUMENT, () -> Bench.end(house, -1));
        house.feed(0x61616161, 0x61616161, 0x61616161, 0x61616161, 0x61616161);
        BENCH.due("one more", Bench.ARGUMENT, () -> Bench.end(house, 21));
        BENCH.due("as many", Bench.NOTHING, () -> Bench.end(house, 20));
        BENCH.due("one less", Bench.NOTHING, () -> Bench.end(house, 19));
        BENCH.due("as it was", Bench.ARGUMENT, () -> Bench.end(house, 20));
        BENCH.due("below 0", Bench.ARGUMENT, () -> Bench.end(house, -1));
        for (int n : FAR) {
            BENCH.due("end(" + n + ")", Bench.ARGUMENT, () -> Bench.end(house, n));
        }
        BENCH.due("sixteen", Bench.NOTHING, () -> Bench.end(house, 16));
        BENCH.due("that is a word", 0, () -> house.braid(2));
    }

    /** "THE TAPE is cut behind its first n bytes": what would go on there is not read. */
    private static void whatIsCutIsGone() {
        int[] due = {0, -2, -3, -4, -1, -6, -7, -8, 0};
        for (int i = 0; i < due.length; i++) {
            KnotHouse house = new KnotHouse();
            int n = i;
            house.feed(0x6f31322b, 0x7531322b, 0x6f31332b, 0x7531332b, 0x3b3b3b3b);
            house.end(n);
            BENCH.due("o12+u12+.., cut behind " + n, due[n], house::diagram);
        }
        KnotHouse house = new KnotHouse();
        for (int n = 0; n <= 17; n++) {
            int letters = n;
            house.feed(0x61616161, 0x61616161, 0x61616161, 0x61616161, 0x61616161);
            house.end(letters);
            BENCH.due("letters behind which it is cut", letters > 16 ? -17 : letters, () -> house.braid(2));
            BENCH.due("the word", letters > 16 ? 16 : letters, () -> house.normal(Math.min(letters, 16), 2));
        }
    }

    /** "what reads it uses it up, also with a FAULT." */
    private static void tapeIsUsedUp() {
        KnotHouse house = new KnotHouse();
        String[] texts = {"o1+u1+", "o1+u1+;x"};
        for (String text : texts) {
            Bench.diagram(house, text);
            BENCH.due("behind " + text, Bench.ARGUMENT, () -> Bench.end(house, 1));
        }
        String[] words = {"aA", "aAb"};
        for (String word : words) {
            Bench.braid(house, 2, word);
            BENCH.due("behind " + word, Bench.ARGUMENT, () -> Bench.end(house, 1));
        }
        BENCH.due("feed", 20, () -> house.feed(0, 0, 0, 0, 0));
    }

    private static String code(String text) {
        KnotHouse house = new KnotHouse();
        int place = Bench.diagram(house, text);
        return place < 0 ? String.valueOf(place) : Bench.show(house, place);
    }

    private static void fault(String text, int place) {
        KnotHouse house = new KnotHouse();
        BENCH.due("diagram of " + text, -1 - place, () -> Bench.diagram(house, text));
        BENCH.due("no diagram of " + text, false, () -> house.drop(0));
    }

    /** "the first byte that cannot stand is a FAULT". */
    private static void bytesThatCannotStand() {
        for (char c : "\0 OU19+-,:<ntpv\u007f\u0080\u00ef\u00f5\u00ff".toCharArray()) {
            fault(String.valueOf(c), 0);
            fault("o1+" + c, 3);
            fault("o1+u1+;" + c, 7);
        }
        for (char c : "\0 ou+-;0/:\u00b1\u00ff".toCharArray()) {
            fault("o" + c + "+", 1);
            fault("o1+u" + c + "+", 4);
        }
        for (char c : "\0 ou;/:,.*\u00ab\u00ad\u00ff".toCharArray()) {
            fault("o1" + c, 2);
            fault("o12" + c, 3);
        }
    }

    /** "1 .. 99 (one or two digits, no 0 in front)"; "(a third digit, too)". */
    private static void namesAndDigits() {
        BENCH.due("1 and 9", "o0+u0+o1+u1+|", () -> code("o1+u1+o9+u9+"));
        BENCH.due("10 and 99", "o0+u0+o1+u1+|", () -> code("o10+u10+o99+u99+"));
        BENCH.due("1 and 11 are two names", "o0+u0+o1+u1+|", () -> code("o1+u1+o11+u11+"));
        fault("o0+u0+", 1);
        fault("o01+u01+", 1);
        fault("o00+", 1);
        fault("o100+u100+", 3);
        fault("o999+", 3);
        fault("o1+u100+", 6);
    }

    /** "so is the length, if the text ends within a VISIT." */
    private static void endsWithinVisit() {
        fault("o", 1);
        fault("u9", 2);
        fault("u99", 3);
        fault("o1+u", 4);
        fault("o1+u1", 5);
        fault("o1+u1+;o", 8);
        // The visit that the text ends within is none yet, so its name cannot be wrong.
        fault("o1+o1", 5);
        fault("o1+u1+o1", 8);
        fault(TWELVE + "o13", TWELVE.length() + 3);
    }

    /** "the first byte of it, if its name has two VISITS already, or one of this letter, or one of the other SIGN". */
    private static void visitsThatCannotStand() {
        fault("o1+u1+o1+", 6);
        fault("o1+u1+u1+", 6);
        fault("o1+u1+;o1-", 7);
        fault("o1+o1+", 3);
        fault("u7-;u7-", 4);
        fault("u10-o2+u10-", 7);
        fault("o1+u1-", 3);
        fault("u1-;;o1+", 5);
        // A byte within the visit is told first.
        fault("o1+o1*", 5);
        fault("o1+u1+o1;", 8);
    }

    /** "or is a 13th name". */
    private static void thirteenthName() {
        String open = "o1+o2+o3+o4+o5+o6+o7+o8+o9+o10+o11+o12+";
        fault(open + "o13+", open.length());
        fault(open + "u13+", open.length());
        fault(open + "o13*", open.length() + 3);
        fault(open + "u12+x", open.length() + 4);
        // Twelve names are fine, so the first without another one is told.
        fault(open, 0);
    }

    /** "so is a ; that brings a 7th COMPONENT". */
    private static void seventhComponent() {
        fault(";;;;;;", 5);
        fault("o1+u1+;;;;;;o2+u2+", 11);
        fault(";;;;;;x", 5);
        fault(";;;;;x", 5);
        BENCH.due("six", "o0+u0+||||||", () -> code(";;;;;o1+u1+"));
    }

    /** "From the left": the fault that is come to first. */
    private static void fromTheLeft() {
        fault("o1+o1+x", 3);
        fault("o1+xo1+", 3);
        fault("o1+u1-;;;;;;", 3);
        fault(";;;;;;o1+o1+", 5);
        fault("o1+o1+u", 3);
        fault(";;;;;;o", 5);
    }

    /** "Behind all that the first byte of the first VISIT whose name has no other one". */
    private static void namesWithoutOther() {
        fault("o1+", 0);
        fault("o1+u1+u2-", 6);
        fault("o1+u2+u1+", 3);
        fault("o1+u1+;u3-o2+", 7);
        fault("o2+u1+;o1+u3+", 0);
        fault("o1+o2+;;;;;;", 11);
        fault("o1+o2+u3+x", 9);
        fault("o1+o2+u", 7);
        // Ahead of what is not plane.
        fault("o1+u2+u1+o2+o3+", 12);
    }

    /** "then the length, if it is not PLANE." */
    private static void notPlane() {
        fault("o1+u2+u1+o2+", 12);
        fault("o1+o2+u1+u2+", 12);
        fault("o10+;u10+", 9);
        fault(Bench.HOPF + ";o3+u4+u3+o4+", 26);
    }

    /** "IllegalState (ahead of that; THE TAPE stays)." */
    private static void diagramWithoutPlace() {
        KnotHouse house = new KnotHouse();
        for (int i = 0; i < 40; i++) {
            house.diagram();
        }
        Bench.feed(house, "o1+u1+x");
        BENCH.due("ahead of a fault", Bench.STATE, house::diagram);
        house.end(6);
        BENCH.due("without a fault", Bench.STATE, house::diagram);
        house.drop(21);
        BENCH.due("the tape stayed", 21, house::diagram);
        BENCH.due("the text", "o0+u0+|", () -> Bench.show(house, 21));
    }

    /** "a for the places 0 and 1, b for 1 and 2, .. (n - 1 letters), small or capital: a FAULT is the first other byte". */
    private static void lettersOfBraids() {
        for (int n = 2; n <= 5; n++) {
            int strands = n;
            KnotHouse house = new KnotHouse();
            char last = (char) ('a' + n - 2);
            char more = (char) (last + 1);
            String all = "a" + last + "A" + Character.toUpperCase(last);
            BENCH.due("all letters of " + n, 0, () -> Bench.braid(house, strands, all));
            BENCH.due("a small letter more", -5, () -> Bench.braid(house, strands, all + more));
            BENCH.due("a capital letter more", -5,
                () -> Bench.braid(house, strands, all + Character.toUpperCase(more)));
            for (char c : "\0 `@{[1;\u00e1\u00c1\u00ff".toCharArray()) {
                BENCH.due("no letter " + (int) c, -1, () -> Bench.braid(house, strands, c + "a"));
            }
            BENCH.due("none came", false, () -> house.dropBraid(1));
        }
    }

    /** "letters, 16 at most: a FAULT is .. the 17th." */
    private static void seventeenthLetter() {
        KnotHouse house = new KnotHouse();
        String sixteen = "aAbBaAbBaAbBaAbB";
        BENCH.due("none", 0, () -> Bench.braid(house, 3, ""));
        BENCH.due("sixteen", 1, () -> Bench.braid(house, 3, sixteen));
        BENCH.due("sixteen", 16, () -> house.normal(1, 2));
        BENCH.due("seventeen", -17, () -> Bench.braid(house, 3, sixteen + "a"));
        BENCH.due("the 17th is another byte", -17, () -> Bench.braid(house, 3, sixteen + "x"));
        BENCH.due("the 16th is another byte", -16, () -> Bench.braid(house, 3, sixteen.substring(1) + "xa"));
        BENCH.due("the 17th is told ahead of the 18th", -17, () -> Bench.braid(house, 3, sixteen + "ax"));
    }

    /** "IllegalArgument: n": 2 .. 5 strands. */
    private static void strandsOfBraids() {
        KnotHouse house = new KnotHouse();
        Bench.feed(house, "aa");
        for (int n : new int[] {1, 6, 0, -1, -2, Integer.MIN_VALUE, Integer.MAX_VALUE}) {
            BENCH.due(n + " strands", Bench.ARGUMENT, () -> house.braid(n));
        }
        BENCH.due("the tape stayed", Bench.NOTHING, () -> Bench.end(house, 2));
        BENCH.due("two strands", 0, () -> house.braid(2));
        BENCH.due("the word", 2, () -> house.normal(0, 2));
        BENCH.due("five strands", 1, () -> house.braid(5));
        BENCH.due("five strands", 5, () -> house.normal(1, 3));
    }

    /** "IllegalArgument: n; IllegalState (both ahead of that; THE TAPE stays)." */
    private static void braidWithoutPlace() {
        KnotHouse house = new KnotHouse();
        for (int i = 0; i < 20; i++) {
            house.braid(2);
        }
        Bench.feed(house, "abx");
        BENCH.due("n is told first", Bench.ARGUMENT, () -> house.braid(6));
        BENCH.due("n is told first", Bench.ARGUMENT, () -> house.braid(1));
        BENCH.due("ahead of a fault", Bench.STATE, () -> house.braid(3));
        house.end(2);
        BENCH.due("without a fault", Bench.STATE, () -> house.braid(3));
        house.dropBraid(12);
        BENCH.due("the tape stayed", 12, () -> house.braid(3));
        BENCH.due("the word", 2, () -> house.normal(12, 2));
    }
}
