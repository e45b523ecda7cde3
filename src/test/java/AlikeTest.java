import java.util.Random;

/**
 * What moves leave alike is left alike: numbers of random diagrams before and after random moves, and the laws by
 * which the polynomials and ranks hang together (promises 18 to 31, 40).
 */
public final class AlikeTest {
    private static final Bench BENCH = new Bench();

    public static void main(String[] args) {
        Random random = new Random(20);
        for (int i = 0; i < 60; i++) {
            int strands = 2 + random.nextInt(3);
            String word = word(random, strands, random.nextInt(7));
            followMoves(strands, word, random);
            skeins(strands, word);
            euler(strands, word);
            takenBack(strands, word, random);
        }
        BENCH.finish();
    }

    private static String word(Random random, int strands, int length) {
        StringBuilder word = new StringBuilder();
        for (int i = 0; i < length; i++) {
            word.append((char) ((random.nextBoolean() ? 'a' : 'A') + random.nextInt(strands - 1)));
        }
        return word.toString();
    }

    /** All numbers that moves leave alike, in one text; a new object, as one is made for 512 calls. */
    private static String numbers(String text) {
        KnotHouse house = new KnotHouse();
        int d = Bench.diagram(house, text);
        StringBuilder all = new StringBuilder();
        for (int k = 0; k <= 8; k++) {
            all.append(house.conway(d, k)).append(' ');
        }
        for (int k = -50; k <= 50; k += 2) {
            all.append(house.jones(d, k)).append(' ');
        }
        all.append(house.signature(d)).append(' ').append(house.figure(d, 1)).append(' ');
        for (int k = 0; k < 6; k++) {
            all.append(house.cover(d, k)).append(' ');
        }
        all.append(house.colours(d, 60)).append(' ');
        return all.toString();
    }

    /** All ranks; the parity of Q is that of the components. */
    private static String ranks(String text) {
        KnotHouse house = new KnotHouse();
        int d = Bench.diagram(house, text);
        StringBuilder all = new StringBuilder();
        all.append(house.chain(d, 2));
        for (int i = -8; i <= 8; i++) {
            for (int q = -20 + house.figure(d, 1) % 2; q <= 20; q += 2) {
                all.append(' ').append(house.rank(i, q));
            }
        }
        return all.toString();
    }

    /** A house for each move, as one is made for 512 calls. */
    private static void followMoves(int strands, String word, Random random) {
        KnotHouse first = new KnotHouse();
        String text = Bench.text(first, Bench.closure(first, strands, word));
        for (int i = 0; i < 4; i++) {
            KnotHouse house = new KnotHouse();
            int d = Bench.diagram(house, text);
            int count = house.moves(d, random.nextInt(5));
            if (count == 0) {
                continue;
            }
            int moved = house.moved(random.nextInt(count));
            String movedText = Bench.text(house, moved);
            BENCH.due("numbers of " + text + ", moved", numbers(text), () -> numbers(movedText));
            compareMaps(house, d, moved);
            if (size(house, d) <= 9 && size(house, moved) <= 9) {
                BENCH.due("ranks of " + text + ", moved", ranks(text), () -> ranks(movedText));
            }
            text = movedText;
        }
    }

    private static int size(KnotHouse house, int d) {
        return house.figure(d, 0) + house.figure(d, 3);
    }

    private static void compareMaps(KnotHouse house, int before, int behind) {
        if (house.figure(before, 0) <= 7 && house.figure(behind, 0) <= 7 && house.figure(before, 1) <= 4) {
            BENCH.due("maps, moved", house.maps(before, 4), () -> house.maps(behind, 4));
        }
    }

    /** C with a crossing +, less C with it changed, is z times C with it smoothed; and P at x = 1 is C. */
    private static void skeins(int strands, String word) {
        KnotHouse house = new KnotHouse();
        int b = Bench.braid(house, strands, word);
        int d = house.closure(b);
        for (int k = 0; k <= 7; k++) {
            int power = k;
            BENCH.due("P at x = 1 of " + word, house.conway(d, k), () -> {
                int sum = 0;
                for (int i = -20; i <= 20; i++) {
                    sum += house.two(b, i, power);
                }
                return sum;
            });
        }
        if (house.figure(d, 0) == 0) {
            return;
        }
        int changed = house.change(d, 0);
        int smoothed = house.smooth(d, 0);
        int sign = house.figure(d, 4) - house.figure(changed, 4) > 0 ? 1 : -1;
        for (int k = 0; k <= 7; k++) {
            int power = k;
            BENCH.due("C of " + word + " changed and smoothed", sign * house.conway(smoothed, k - 1),
                () -> house.conway(d, power) - house.conway(changed, power));
        }
    }

    /** The sum of ranks at Q q, with signs by H, is the number of - J, times A^2 + A^-2, at A^(-2 q), up to sign. */
    private static void euler(int strands, String word) {
        KnotHouse house = new KnotHouse();
        int d = Bench.closure(house, strands, word);
        if (house.figure(d, 0) + house.figure(d, 3) > 9) {
            return;
        }
        house.chain(d, 3);
        int turn = house.figure(d, 1) % 2 == 0 ? 1 : -1;
        for (int q = -16; q <= 16; q++) {
            int due = 0;
            for (int i = -6; i <= 6; i++) {
                due += (i % 2 == 0 ? 1 : -1) * house.rank(i, q);
            }
            int at = q;
            BENCH.due("ranks and J of " + word + " at " + q, due,
                () -> -turn * (house.jones(d, -2 * at - 2) + house.jones(d, -2 * at + 2)));
        }
    }

    private static void takenBack(int strands, String word, Random random) {
        KnotHouse house = new KnotHouse();
        int d = Bench.closure(house, strands, word);
        if (house.figure(d, 0) > 4) {
            return;
        }
        int kind = random.nextInt(5);
        int count = house.moves(d, kind);
        if (count == 0) {
            return;
        }
        int moved = house.moved(random.nextInt(count));
        int[] back = {1, 0, 3, 2, 4};
        BENCH.due("a move of " + word + " taken back", true, () -> {
            boolean found = false;
            for (int k = house.moves(moved, back[kind]) - 1; k >= 0; k--) {
                int again = house.moved(k);
                found |= house.alike(again, d);
                house.drop(again);
            }
            return found;
        });
        if (house.figure(moved, 0) <= 4 && !house.alike(d, moved)) {
            BENCH.due("the way of " + word, 1, () -> house.way(d, moved));
            BENCH.due("the way back to " + word, 1, () -> house.way(moved, d));
        }
    }
}
