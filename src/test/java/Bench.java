/** What the tests share: making diagrams and braids, and telling which answers are not due. */
final class Bench {
    static final String NOTHING = "nothing";

    private int wrong;
    private int asked;

    /** A call whose answer or exception is looked at. */
    interface Call {
        Object run();
    }

    /** Feeds a text and cuts the tape behind it. */
    static void feed(KnotHouse house, String text) {
        for (int at = 0; at < text.length(); at += 20) {
            int[] words = new int[5];
            for (int i = 0; i < 20; i++) {
                int letter = at + i < text.length() ? text.charAt(at + i) : ' ';
                words[i / 4] |= (letter & 255) << 24 - 8 * (i % 4);
            }
            house.feed(words[0], words[1], words[2], words[3], words[4]);
        }
        house.end(text.length());
    }

    static int diagram(KnotHouse house, String text) {
        feed(house, text);
        return house.diagram();
    }

    static int braid(KnotHouse house, int strands, String word) {
        feed(house, word);
        return house.braid(strands);
    }

    /** The closure of a word; the braid itself goes. */
    static int closure(KnotHouse house, int strands, String word) {
        int b = braid(house, strands, word);
        int d = house.closure(b);
        house.dropBraid(b);
        return d;
    }

    /** The code of a diagram, read from outside: visits as o or u, crossing, sign; a bar behind each component. */
    static String show(KnotHouse house, int d) {
        StringBuilder text = new StringBuilder();
        int visits = 2 * house.figure(d, 0);
        int component = 0;
        for (int i = 0; i < visits; i++) {
            for (; component < house.visit(d, i, 0); component++) {
                text.append('|');
            }
            text.append(house.visit(d, i, 2) == 0 ? 'o' : 'u');
            text.append(house.visit(d, i, 1) + 1);
            text.append(house.visit(d, i, 3) > 0 ? '+' : '-');
        }
        for (; component < house.figure(d, 1); component++) {
            text.append('|');
        }
        return text.toString();
    }

    void due(String what, Object want, Call call) {
        asked++;
        Object got;
        try {
            got = call.run();
        } catch (RuntimeException e) {
            got = e.getClass().getSimpleName();
        }
        if (!String.valueOf(want).equals(String.valueOf(got))) {
            wrong++;
            System.out.println(what + " answered " + got + ", due is " + want);
        }
    }

    /** Ends the test: with exit code 1 if an answer was not the one that is due. */
    void finish() {
        System.out.println(asked + " calls, " + wrong + " wrong");
        if (wrong > 0) {
            System.exit(1);
        }
    }
}
