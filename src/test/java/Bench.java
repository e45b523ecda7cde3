/** What the tests share: making diagrams and braids, and telling which answers are not due. */
final class Bench {
    static final String INDEX = "IndexOutOfBoundsException";
    static final String ARGUMENT = "IllegalArgumentException";
    static final String UNSUPPORTED = "UnsupportedOperationException";
    static final String STATE = "IllegalStateException";
    static final String NOTHING = "nothing";

    static final String TREFOIL = "o1+u2+o3+u1+o2+u3+";
    static final String HOPF = "o1+u2+;u1+o2+";

    private int wrong;
    private int asked;

    /** A call whose answer or exception is looked at. */
    interface Call {
        Object run();
    }

    /** Feeds a text and cuts the tape behind it. */
    static void feed(KnotHouse house, String text) {
        for (int at = 0; at < text.length(); at += 20) {
            int[] words = new int[5];
            for (int i = 0; i < 20; i++) {
                int letter = at + i < text.length() ? text.charAt(at + i) : ' ';
                words[i / 4] |= (letter & 255) << 24 - 8 * (i % 4);
            }
            house.feed(words[0], words[1], words[2], words[3], words[4]);
        }
        house.end(text.length());
    }

    static int diagram(KnotHouse house, String text) {
        feed(house, text);
        return house.diagram();
    }

    static int braid(KnotHouse house, int strands, String word) {
        feed(house, word);
        return house.braid(strands);
    }

    /** The closure of a word; the braid itself goes. */
    static int closure(KnotHouse house, int strands, String word) {
        int b = braid(house, strands, word);
        int d = house.closure(b);
        house.dropBraid(b);
        return d;
    }

    /** A diagram as it is numbered: a text in which each component has its bar behind it. */
    static String show(KnotHouse house, int d) {
        StringBuilder text = new StringBuilder();
        int visits = 2 * house.figure(d, 0);
        int component = 0;
        for (int i = 0; i < visits; i++) {
            for (; component < house.visit(d, i, 0); component++) {
                text.append('|');
            }
            text.append(house.visit(d, i, 2) == 0 ? 'o' : 'u');
            text.append(house.visit(d, i, 1));
            text.append(house.visit(d, i, 3) > 0 ? '+' : '-');
        }
        for (; component < house.figure(d, 1); component++) {
            text.append('|');
        }
        return text.toString();
    }

    /** A text from which the diagram can be read again. */
    static String text(KnotHouse house, int d) {
        StringBuilder text = new StringBuilder();
        int component = 0;
        for (int i = 0; i < 2 * house.figure(d, 0); i++) {
            for (; component < house.visit(d, i, 0); component++) {
                text.append(';');
            }
            text.append(house.visit(d, i, 2) == 0 ? 'o' : 'u');
            text.append(house.visit(d, i, 1) + 1);
            text.append(house.visit(d, i, 3) > 0 ? '+' : '-');
        }
        for (; component < house.figure(d, 1) - 1; component++) {
            text.append(';');
        }
        return text.toString();
    }

    /** How many diagrams a move makes, and all of them in the order of the list. */
    static String list(KnotHouse house, int d, int kind) {
        int count = house.moves(d, kind);
        StringBuilder all = new StringBuilder();
        all.append(count);
        for (int k = 0; k < count; k++) {
            int made = house.moved(k);
            all.append(' ').append(show(house, made));
            house.drop(made);
        }
        return all.toString();
    }

    static String list(String text, int kind) {
        KnotHouse house = new KnotHouse();
        return list(house, diagram(house, text), kind);
    }

    static String list(int strands, String word, int kind) {
        KnotHouse house = new KnotHouse();
        return list(house, closure(house, strands, word), kind);
    }

    /** What end(n) does, as an answer. */
    static Object end(KnotHouse house, int n) {
        house.end(n);
        return NOTHING;
    }

    /** Circles come to all places that are free. */
    static void fillDiagrams(KnotHouse house) {
        for (int i = 0; i < 40; i++) {
            if (!house.alike(i, i)) {
                diagram(house, "");
            }
        }
    }

    /** Empty braids of two strands come to all places that are free. */
    static void fillBraids(KnotHouse house) {
        for (int i = 0; i < 20; i++) {
            if (!house.equal(i, i)) {
                braid(house, 2, "");
            }
        }
    }

    void due(String what, Object want, Call call) {
        asked++;
        Object got;
        try {
            got = call.run();
        } catch (RuntimeException e) {
            got = e.getClass().getSimpleName();
        }
        if (!String.valueOf(want).equals(String.valueOf(got))) {
            wrong++;
            System.out.println(what + " answered " + got + ", due is " + want);
        }
    }

    /** Ends the test: with exit code 1 if an answer was not the one that is due. */
    void finish() {
        System.out.println(asked + " calls, " + wrong + " wrong");
        if (wrong > 0) {
            System.exit(1);
        }
    }
}
