import java.util.Arrays;

/** Plane diagrams of knots and links, and braids, with the numbers that moves leave alike. */
public final class KnotHouse {
    public static final int NONE = -1, OPEN = -2;

    private static final int MAX_CROSSINGS = 12;
    private static final int MAX_COMPONENTS = 6;
    private static final int MAX_VISITS = 24;
    /** A code has a cell for each visit and one behind each component. */
    private static final int CELLS = 30;
    private static final int DIAGRAM_PLACES = 40;
    private static final int BRAID_PLACES = 20;
    private static final int MAX_LETTERS = 16;
    private static final int MAX_STRANDS = 5;
    private static final int TAPE_BYTES = 400;
    private static final int MOVE_KINDS = 5;
    /** With ten crossings a move of kind 3 has 21 places over, 22 under, and 4 ways. */
    private static final int LIST_SLOTS = 1848;
    private static final int SIMPLIFY_LIMIT = 300;
    /** With four crossings fewer than this many moves of all kinds can be made. */
    private static final int WAY_SLOTS = 480;
    private static final int WAY_CROSSINGS = 4;
    private static final int SUMMIT_LIMIT = 200;

    private final Codes diagrams = new Codes(DIAGRAM_PLACES);
    private final Codes list = new Codes(LIST_SLOTS);
    private final Codes found = new Codes(MAX_CROSSINGS);
    private final Net net = new Net();
    private final Net other = new Net();
    private final Faces faces = new Faces();
    private final Coder coder = new Coder();
    private final Reader reader = new Reader();
    private final Mover mover = new Mover();
    private final Polynomials polynomials = new Polynomials();
    private final Arcs arcs = new Arcs();
    private final Chains chains = new Chains();
    private final byte[] letters = new byte[BRAID_PLACES * MAX_LETTERS];
    private final int[] lengths = new int[BRAID_PLACES];
    /** 0 where no braid is. */
    private final int[] strands = new int[BRAID_PLACES];
    private final Form form = new Form();
    private final Form otherForm = new Form();
    private final Summit summitSet = new Summit();
    private final Summit otherSet = new Summit();

    public KnotHouse() {
    }

    // ---- texts

    public int feed(int a, int b, int c, int d, int e) throws IllegalStateException {
        if (reader.length + 20 > TAPE_BYTES) {
            throw new IllegalStateException("the tape is full");
        }
        reader.take(a);
        reader.take(b);
        reader.take(c);
        reader.take(d);
        reader.take(e);
        return reader.length;
    }

    public void end(int n) throws IllegalArgumentException {
        if (n < 0 || n > reader.length) {
            throw new IllegalArgumentException("the tape has not so many bytes");
        }
        reader.length = n;
    }

    public int diagram() throws IllegalStateException {
        int place = freeDiagram();
        int fault = reader.readDiagram(net);
        if (fault == NONE && !faces.isPlane(net)) {
            fault = reader.length;
        }
        reader.length = 0;
        return fault == NONE ? keep(place) : -1 - fault;
    }

    public int braid(int n) throws IllegalArgumentException, IllegalStateException {
        if (n < 2 || n > MAX_STRANDS) {
            throw new IllegalArgumentException("a braid has 2 to 5 strands");
        }
        int place = freeBraid();
        int count = reader.length;
        int fault = reader.readBraid(n, letters, place * MAX_LETTERS);
        reader.length = 0;
        if (fault != NONE) {
            return -1 - fault;
        }
        lengths[place] = count;
        strands[place] = n;
        return place;
    }

    // ---- places

    private boolean hasDiagram(int d) {
        return d >= 0 && d < DIAGRAM_PLACES && diagrams.lengths[d] > 0;
    }

    private boolean hasBraid(int b) {
        return b >= 0 && b < BRAID_PLACES && strands[b] > 0;
    }

    private void needDiagram(int d) {
        if (!hasDiagram(d)) {
            throw new IndexOutOfBoundsException("no such diagram");
        }
    }

    private void needBraid(int b) {
        if (!hasBraid(b)) {
            throw new IndexOutOfBoundsException("no such braid");
        }
    }

    private int freeDiagram() {
        for (int d = 0; d < DIAGRAM_PLACES; d++) {
            if (diagrams.lengths[d] == 0) {
                return d;
            }
        }
        throw new IllegalStateException("no place is free for a diagram");
    }

    private int freeBraid() {
        for (int b = 0; b < BRAID_PLACES; b++) {
            if (strands[b] == 0) {
                return b;
            }
        }
        throw new IllegalStateException("no place is free for a braid");
    }

    /** The net becomes the diagram at a place. */
    private int keep(int place) {
        coder.encode(net);
        diagrams.write(place, coder.out, 0);
        return place;
    }

    public boolean drop(int d) {
        if (!hasDiagram(d)) {
            return false;
        }
        diagrams.lengths[d] = 0;
        return true;
    }

    public boolean dropBraid(int b) {
        if (!hasBraid(b)) {
            return false;
        }
        strands[b] = 0;
        return true;
    }

    // ---- what a diagram has

    public int figure(int d, int what) throws IndexOutOfBoundsException, IllegalArgumentException {
        needDiagram(d);
        if (what < 0 || what > 5) {
            throw new IllegalArgumentException("there are six figures");
        }
        net.load(diagrams, d);
        switch (what) {
            case 0:
                return net.crossings;
            case 1:
                return net.components;
            case 2:
                return net.circles;
            case 3:
                net.markParts();
                return net.parts + net.circles;
            case 4:
                return net.writhe();
            default:
                return net.alternates() ? 1 : 0;
        }
    }

    public int visit(int d, int i, int what) throws IndexOutOfBoundsException, IllegalArgumentException {
        needDiagram(d);
        if (i < 0 || i >= 2 * diagrams.crossings[d]) {
            throw new IndexOutOfBoundsException("no such visit");
        }
        if (what < 0 || what > 3) {
            throw new IllegalArgumentException("a visit has four numbers");
        }
        net.load(diagrams, d);
        int v = net.order[i];
        switch (what) {
            case 0:
                return net.component[v];
            case 1:
                return v >> 1;
            case 2:
                return v & 1;
            default:
                return net.sign[v >> 1];
        }
    }

    public int linking(int d, int a, int b) throws IndexOutOfBoundsException, IllegalArgumentException {
        needDiagram(d);
        net.load(diagrams, d);
        needComponent(a);
        needComponent(b);
        if (a == b) {
            throw new IllegalArgumentException("two components are needed");
        }
        int sum = 0;
        for (int x = 0; x < net.crossings; x++) {
            int over = net.component[2 * x];
            int under = net.component[2 * x + 1];
            if (over == a && under == b || over == b && under == a) {
                sum += net.sign[x];
            }
        }
        return sum / 2;
    }

    /** Of the net that was loaded. */
    private void needComponent(int c) {
        if (c < 0 || c >= net.components) {
            throw new IndexOutOfBoundsException("no such component");
        }
    }

    /** Of the net that was loaded. */
    private void needCrossing(int x) {
        if (x < 0 || x >= net.crossings) {
            throw new IndexOutOfBoundsException("no such crossing");
        }
    }

    public boolean alike(int d, int e) {
        return hasDiagram(d) && hasDiagram(e) && diagrams.compare(d, diagrams, e) == 0;
    }

    // ---- new diagrams of old ones

    public int mirror(int d) throws IndexOutOfBoundsException, IllegalStateException {
        needDiagram(d);
        int place = freeDiagram();
        net.load(diagrams, d);
        for (int x = 0; x < net.crossings; x++) {
            net.flipCrossing(x);
        }
        return keep(place);
    }

    public int reverse(int d, int c) throws IndexOutOfBoundsException, IllegalStateException {
        needDiagram(d);
        net.load(diagrams, d);
        if (c != NONE) {
            needComponent(c);
        }
        int place = freeDiagram();
        net.turn(c);
        return keep(place);
    }

    public int change(int d, int x) throws IndexOutOfBoundsException, IllegalStateException {
        needDiagram(d);
        net.load(diagrams, d);
        needCrossing(x);
        int place = freeDiagram();
        net.flipCrossing(x);
        return keep(place);
    }

    public int smooth(int d, int x) throws IndexOutOfBoundsException, UnsupportedOperationException, IllegalStateException {
        needDiagram(d);
        net.load(diagrams, d);
        needCrossing(x);
        net.smoothCrossing(x);
        net.markRings();
        if (net.components + net.circles > MAX_COMPONENTS) {
            throw new UnsupportedOperationException("more than 6 components");
        }
        return keep(freeDiagram());
    }

    public int apart(int d, int e) throws IndexOutOfBoundsException, UnsupportedOperationException, IllegalStateException {
        needDiagram(d);
        needDiagram(e);
        loadBoth(d, e, 0);
        int place = freeDiagram();
        net.append(other);
        return keep(place);
    }

    public int join(int d, int v, int e, int w) throws IndexOutOfBoundsException, UnsupportedOperationException, IllegalStateException {
        needDiagram(d);
        if (v < 0 || v >= 2 * diagrams.crossings[d]) {
            throw new IndexOutOfBoundsException("no such visit");
        }
        needDiagram(e);
        if (w < 0 || w >= 2 * diagrams.crossings[e]) {
            throw new IndexOutOfBoundsException("no such visit");
        }
        loadBoth(d, e, 1);
        int place = freeDiagram();
        int from = net.order[v];
        int to = 2 * net.crossings + other.order[w];
        net.append(other);
        net.exchange(from, to);
        return keep(place);
    }

    private void loadBoth(int d, int e, int joined) {
        net.load(diagrams, d);
        other.load(diagrams, e);
        if (net.crossings + other.crossings > MAX_CROSSINGS
                || net.components + other.components - joined > MAX_COMPONENTS) {
            throw new UnsupportedOperationException("more than 12 crossings or 6 components");
        }
    }

    // ---- moves

    public int moves(int d, int kind) throws IndexOutOfBoundsException, IllegalArgumentException {
        needDiagram(d);
        if (kind < 0 || kind >= MOVE_KINDS) {
            throw new IllegalArgumentException("there are five kinds of moves");
        }
        list.size = 0;
        mover.collect(diagrams, d, kind, list);
        return list.size;
    }

    public int moved(int k) throws IndexOutOfBoundsException, IllegalStateException {
        return copyOut(list, k);
    }

    /** The k-th of what was found comes to a new place. */
    private int copyOut(Codes from, int k) {
        if (k < 0 || k >= from.size) {
            throw new IndexOutOfBoundsException("so many were not found");
        }
        int place = freeDiagram();
        diagrams.write(place, from, from.order[k]);
        return place;
    }

    public int simplify(int d) throws IndexOutOfBoundsException, IllegalStateException {
        needDiagram(d);
        int place = freeDiagram();
        mover.reach(diagrams, d);
        Codes reached = mover.reached;
        if (reached.size > SIMPLIFY_LIMIT) {
            return OPEN;
        }
        diagrams.write(place, reached, reached.order[0]);
        return place;
    }

    public int way(int d, int e) throws IndexOutOfBoundsException, UnsupportedOperationException {
        needDiagram(d);
        needDiagram(e);
        if (diagrams.crossings[d] > WAY_CROSSINGS || diagrams.crossings[e] > WAY_CROSSINGS) {
            throw new UnsupportedOperationException("more than 4 crossings");
        }
        if (diagrams.compare(d, diagrams, e) == 0) {
            return 0;
        }
        mover.surround(diagrams, d, mover.near);
        if (mover.near.find(diagrams, e) >= 0) {
            return 1;
        }
        // Each move can be taken back, so two moves meet at what is near to both.
        mover.surround(diagrams, e, mover.nearOther);
        return mover.near.meets(mover.nearOther) ? 2 : NONE;
    }

    public int summands(int d) throws IndexOutOfBoundsException {
        needDiagram(d);
        net.load(diagrams, d);
        net.partAll();
        coder.collectParts(net, found);
        return found.size;
    }

    public int summand(int k) throws IndexOutOfBoundsException, IllegalStateException {
        return copyOut(found, k);
    }

    // ---- numbers of diagrams

    public int conway(int d, int k) throws IndexOutOfBoundsException {
        needDiagram(d);
        polynomials.unfoldCode(diagrams, d);
        return polynomials.conwayAt(k);
    }

    public int jones(int d, int k) throws IndexOutOfBoundsException {
        needDiagram(d);
        polynomials.countStates(diagrams, d);
        return polynomials.jonesAt(k);
    }

    public int signature(int d) throws IndexOutOfBoundsException {
        needDiagram(d);
        net.load(diagrams, d);
        return faces.signatureOf(net);
    }

    public int cover(int d, int k) throws IndexOutOfBoundsException {
        needDiagram(d);
        net.load(diagrams, d);
        arcs.findCover(net);
        return arcs.coverAt(k);
    }

    public long colours(int d, int m) throws IndexOutOfBoundsException, IllegalArgumentException {
        needDiagram(d);
        if (m < 1 || m > 100) {
            throw new IllegalArgumentException("colours are counted modulo 1 to 100");
        }
        net.load(diagrams, d);
        arcs.findCover(net);
        return arcs.countColours(m);
    }

    public int maps(int d, int m) throws IndexOutOfBoundsException, IllegalArgumentException, UnsupportedOperationException {
        needDiagram(d);
        if (m < 1 || m > 4) {
            throw new IllegalArgumentException("permutations are of 1 to 4 things");
        }
        net.load(diagrams, d);
        if (net.crossings > 7 || net.components > 4) {
            throw new UnsupportedOperationException("more than 7 crossings or 4 components");
        }
        return (int) arcs.countMaps(net, m);
    }

    public int chain(int d, int p) throws IndexOutOfBoundsException, IllegalArgumentException, UnsupportedOperationException {
        needDiagram(d);
        if (p < 2 || p > 997 || !isPrime(p)) {
            throw new IllegalArgumentException("a prime from 2 to 997 is needed");
        }
        net.load(diagrams, d);
        net.markParts();
        if (net.crossings + net.parts + net.circles > 9) {
            throw new UnsupportedOperationException("more than 9 crossings and parts");
        }
        return chains.compute(net, p);
    }

    private static boolean isPrime(int p) {
        for (int i = 2; i * i <= p; i++) {
            if (p % i == 0) {
                return false;
            }
        }
        return true;
    }

    public int rank(int i, int q) {
        return chains.rankAt(i, q);
    }

    // ---- braids

    public int closure(int b) throws IndexOutOfBoundsException, UnsupportedOperationException, IllegalStateException {
        needBraid(b);
        if (lengths[b] > MAX_CROSSINGS) {
            throw new UnsupportedOperationException("more than 12 letters");
        }
        int place = freeDiagram();
        net.close(letters, b * MAX_LETTERS, lengths[b], strands[b]);
        return keep(place);
    }

    public int product(int a, int b) throws IndexOutOfBoundsException, IllegalArgumentException, UnsupportedOperationException, IllegalStateException {
        needBraid(a);
        needBraid(b);
        if (strands[a] != strands[b]) {
            throw new IllegalArgumentException("as many strands are needed");
        }
        if (lengths[a] + lengths[b] > MAX_LETTERS) {
            throw new UnsupportedOperationException("more than 16 letters");
        }
        int place = freeBraid();
        int at = place * MAX_LETTERS;
        System.arraycopy(letters, a * MAX_LETTERS, letters, at, lengths[a]);
        System.arraycopy(letters, b * MAX_LETTERS, letters, at + lengths[a], lengths[b]);
        lengths[place] = lengths[a] + lengths[b];
        strands[place] = strands[a];
        return place;
    }

    public int inverse(int b) throws IndexOutOfBoundsException, IllegalStateException {
        needBraid(b);
        int place = freeBraid();
        int count = lengths[b];
        for (int i = 0; i < count; i++) {
            letters[place * MAX_LETTERS + i] = (byte) -letters[b * MAX_LETTERS + count - 1 - i];
        }
        lengths[place] = count;
        strands[place] = strands[b];
        return place;
    }

    /** The form becomes that of a braid. */
    private void write(Form into, int b) {
        into.begin(strands[b]);
        for (int i = 0; i < lengths[b]; i++) {
            into.takeLetter(letters[b * MAX_LETTERS + i]);
        }
    }

    public int normal(int b, int what) throws IndexOutOfBoundsException, IllegalArgumentException {
        needBraid(b);
        if (what < 0 || what > 3) {
            throw new IllegalArgumentException("there are four numbers of a braid");
        }
        write(form, b);
        switch (what) {
            case 0:
                return form.power;
            case 1:
                return form.length;
            case 2:
                return lengths[b];
            default:
                return strands[b];
        }
    }

    public int factor(int b, int i, int j) throws IndexOutOfBoundsException {
        needBraid(b);
        write(form, b);
        if (i < 1 || i > form.length || j < 0 || j >= strands[b]) {
            return NONE;
        }
        return Form.image(form.factors[i - 1], j);
    }

    public boolean equal(int a, int b) {
        if (!hasBraid(a) || !hasBraid(b) || strands[a] != strands[b]) {
            return false;
        }
        write(form, a);
        write(otherForm, b);
        return form.sameAs(otherForm);
    }

    public int summit(int b) throws IndexOutOfBoundsException, UnsupportedOperationException {
        needBraid(b);
        needFewStrands(b);
        write(form, b);
        return summitSet.find(form);
    }

    public int conjugate(int a, int b) throws IndexOutOfBoundsException, IllegalArgumentException, UnsupportedOperationException {
        needBraid(a);
        needBraid(b);
        if (strands[a] != strands[b]) {
            throw new IllegalArgumentException("as many strands are needed");
        }
        needFewStrands(a);
        write(form, a);
        int first = summitSet.find(form);
        write(form, b);
        int second = otherSet.find(form);
        if (first == OPEN || second == OPEN) {
            return OPEN;
        }
        return summitSet.sameAs(otherSet) ? 1 : 0;
    }

    private void needFewStrands(int b) {
        if (strands[b] >= MAX_STRANDS) {
            throw new UnsupportedOperationException("summit sets are for 2 to 4 strands");
        }
    }

    public int two(int b, int i, int j) throws IndexOutOfBoundsException, UnsupportedOperationException {
        needBraid(b);
        if (lengths[b] > 10) {
            throw new UnsupportedOperationException("more than 10 letters");
        }
        net.close(letters, b * MAX_LETTERS, lengths[b], strands[b]);
        coder.encode(net);
        polynomials.unfoldCode(coder.out, 0);
        return polynomials.twoAt(i, j);
    }

    /** A table of codes, each in a slot; those that were added also stand in order, the lesser first. */
    private static final class Codes {
        final byte[] cells;
        final byte[] lengths;
        final byte[] crossings;
        final int[] order;
        int size;

        Codes(int slots) {
            cells = new byte[slots * CELLS];
            lengths = new byte[slots];
            crossings = new byte[slots];
            order = new int[slots];
        }

        void write(int slot, Codes from, int at) {
            System.arraycopy(from.cells, at * CELLS, cells, slot * CELLS, CELLS);
            lengths[slot] = from.lengths[at];
            crossings[slot] = from.crossings[at];
        }

        int compare(int slot, Codes from, int at) {
            if (crossings[slot] != from.crossings[at]) {
                return crossings[slot] - from.crossings[at];
            }
            int mine = slot * CELLS;
            int theirs = at * CELLS;
            int shared = Math.min(lengths[slot], from.lengths[at]);
            for (int i = 0; i < shared; i++) {
                int difference = cells[mine + i] - from.cells[theirs + i];
                if (difference != 0) {
                    return difference;
                }
            }
            return lengths[slot] - from.lengths[at];
        }

        /** Where in the order it stands; -1 less where it should, if it is not there. */
        int find(Codes from, int at) {
            int low = 0;
            int high = size;
            for (int i = 0; i < 32 && low < high; i++) {
                int middle = (low + high) >>> 1;
                int difference = compare(order[middle], from, at);
                if (difference == 0) {
                    return middle;
                }
                if (difference < 0) {
                    low = middle + 1;
                } else {
                    high = middle;
                }
            }
            return -1 - low;
        }

        void addNew(Codes from, int at) {
            int where = find(from, at);
            if (where < 0) {
                insert(-1 - where, from, at);
            }
        }

        /** Whether one code is in both. */
        boolean meets(Codes from) {
            for (int i = 0; i < size; i++) {
                if (from.find(this, i) >= 0) {
                    return true;
                }
            }
            return false;
        }

        void insert(int where, Codes from, int at) {
            if (size >= order.length) {
                return;
            }
            write(size, from, at);
            System.arraycopy(order, where, order, where + 1, size - where);
            order[where] = size;
            size++;
        }
    }

    /**
     * A diagram as rings of visits: visit 2 x is the one over of crossing x, 2 x + 1 the one under,
     * so that a visit's mate is v ^ 1.
     */
    private static final class Net {
        final int[] next = new int[MAX_VISITS];
        final int[] prev = new int[MAX_VISITS];
        final int[] sign = new int[MAX_CROSSINGS];
        /** The visits as the code numbers them; holds only while the net is as it was loaded. */
        final int[] order = new int[MAX_VISITS];
        final int[] component = new int[MAX_VISITS];
        final int[] part = new int[MAX_VISITS];
        private final int[] queue = new int[MAX_VISITS];
        int crossings;
        int circles;
        int components;
        /** Those with crossings. */
        int parts;

        void load(Codes codes, int slot) {
            crossings = codes.crossings[slot];
            circles = 0;
            components = 0;
            int at = slot * CELLS;
            int base = 0;
            int named = 0;
            int lonely = 0;
            int count = 0;
            int first = NONE;
            int last = NONE;
            for (int i = 0; i < codes.lengths[slot]; i++) {
                int cell = codes.cells[at + i];
                if (cell == 0) {
                    if (first == NONE) {
                        circles++;
                    } else {
                        link(last, first);
                    }
                    components++;
                    first = NONE;
                    // Only behind the last component of a part has each visit its mate.
                    base = lonely == 0 ? named : base;
                    continue;
                }
                int x = base + (cell >> 2) - 1;
                if (x >= named) {
                    named = x + 1;
                    lonely++;
                    sign[x] = (cell & 1) == 0 ? 1 : -1;
                } else {
                    lonely--;
                }
                int v = 2 * x + (cell >> 1 & 1);
                order[count] = v;
                count++;
                component[v] = components;
                if (first == NONE) {
                    first = v;
                } else {
                    link(last, v);
                }
                last = v;
            }
        }

        void empty() {
            crossings = 0;
            circles = 0;
        }

        void copy(Net from) {
            crossings = from.crossings;
            circles = from.circles;
            System.arraycopy(from.next, 0, next, 0, 2 * crossings);
            System.arraycopy(from.prev, 0, prev, 0, 2 * crossings);
            System.arraycopy(from.sign, 0, sign, 0, crossings);
        }

        void append(Net from) {
            int offset = 2 * crossings;
            for (int v = 0; v < 2 * from.crossings; v++) {
                next[offset + v] = offset + from.next[v];
                prev[offset + v] = offset + from.prev[v];
            }
            System.arraycopy(from.sign, 0, sign, crossings, from.crossings);
            crossings += from.crossings;
            circles += from.circles;
        }

        void link(int v, int w) {
            next[v] = w;
            prev[w] = v;
        }

        /** What was behind v comes behind w, and the other way round. */
        void exchange(int v, int w) {
            int behind = next[v];
            link(v, next[w]);
            link(w, behind);
        }

        void putBehind(int after, int v) {
            int behind = next[after];
            link(after, v);
            link(v, behind);
        }

        /** A circle becomes a ring of one visit. */
        void openCircle(int v) {
            circles--;
            link(v, v);
        }

        private void cut(int v) {
            if (next[v] == v) {
                circles++;
            } else {
                link(prev[v], next[v]);
            }
        }

        void removeCrossing(int x) {
            cut(2 * x);
            cut(2 * x + 1);
            crossings--;
            if (x != crossings) {
                rename(2 * crossings, 2 * x);
                rename(2 * crossings + 1, 2 * x + 1);
                sign[x] = sign[crossings];
            }
        }

        private void rename(int v, int name) {
            if (next[v] == v) {
                link(name, name);
            } else {
                link(prev[v], name);
                link(name, next[v]);
            }
        }

        void smoothCrossing(int x) {
            exchange(2 * x, 2 * x + 1);
            removeCrossing(x);
        }

        void swapPlaces(int v, int w) {
            int beforeV = swapped(prev[v], v, w);
            int behindV = swapped(next[v], v, w);
            int beforeW = swapped(prev[w], v, w);
            int behindW = swapped(next[w], v, w);
            link(beforeV, w);
            link(w, behindV);
            link(beforeW, v);
            link(v, behindW);
        }

        private static int swapped(int a, int v, int w) {
            return a == v ? w : a == w ? v : a;
        }

        void flipCrossing(int x) {
            swapPlaces(2 * x, 2 * x + 1);
            sign[x] = -sign[x];
        }

        /** Turns component c round, or all for NONE. */
        void turn(int c) {
            for (int v = 0; v < 2 * crossings; v++) {
                if (c == NONE || component[v] == c) {
                    int behind = next[v];
                    next[v] = prev[v];
                    prev[v] = behind;
                    // Where both visits turn the sign comes back.
                    sign[v >> 1] = -sign[v >> 1];
                }
            }
        }

        int writhe() {
            int sum = 0;
            for (int x = 0; x < crossings; x++) {
                sum += sign[x];
            }
            return sum;
        }

        boolean alternates() {
            for (int v = 0; v < 2 * crossings; v++) {
                if ((v & 1) == (next[v] & 1)) {
                    return false;
                }
            }
            return true;
        }

        /** Numbers the rings alone, without the circles. */
        void markRings() {
            int visits = 2 * crossings;
            Arrays.fill(component, 0, visits, NONE);
            components = 0;
            for (int start = 0; start < visits; start++) {
                if (component[start] != NONE) {
                    continue;
                }
                int v = start;
                for (int i = 0; i < visits && component[v] == NONE; i++) {
                    component[v] = components;
                    v = next[v];
                }
                components++;
            }
        }

        void markParts() {
            int visits = 2 * crossings;
            Arrays.fill(part, 0, visits, NONE);
            parts = 0;
            for (int start = 0; start < visits; start++) {
                if (part[start] != NONE) {
                    continue;
                }
                int count = 1;
                queue[0] = start;
                part[start] = parts;
                for (int i = 0; i < count && i < visits; i++) {
                    int behind = next[queue[i]];
                    int mate = queue[i] ^ 1;
                    if (part[behind] == NONE) {
                        part[behind] = parts;
                        queue[count] = behind;
                        count++;
                    }
                    if (part[mate] == NONE) {
                        part[mate] = parts;
                        queue[count] = mate;
                        count++;
                    }
                }
                parts++;
            }
        }

        /** Parts every part as long as one can be parted. */
        void partAll() {
            for (int i = 0; i < MAX_CROSSINGS; i++) {
                if (!partOnce()) {
                    return;
                }
            }
        }

        private boolean partOnce() {
            markRings();
            markParts();
            int before = parts;
            for (int v = 0; v < 2 * crossings; v++) {
                for (int w = v + 1; w < 2 * crossings; w++) {
                    if (component[v] != component[w]) {
                        continue;
                    }
                    exchange(v, w);
                    markParts();
                    if (parts > before) {
                        return true;
                    }
                    exchange(v, w);
                }
            }
            return false;
        }

        /** The net becomes the closure of a braid. */
        void close(byte[] letters, int at, int count, int strands) {
            int[] first = order;
            int[] last = queue;
            Arrays.fill(first, 0, strands, NONE);
            Arrays.fill(last, 0, strands, NONE);
            empty();
            for (int i = 0; i < count && i < MAX_CROSSINGS; i++) {
                int letter = letters[at + i];
                int place = Math.abs(letter) - 1;
                int rising = letter > 0 ? 2 * i : 2 * i + 1;
                int falling = rising ^ 1;
                extend(first, last, place, rising);
                extend(first, last, place + 1, falling);
                last[place] = falling;
                last[place + 1] = rising;
                sign[i] = letter > 0 ? 1 : -1;
                crossings++;
            }
            for (int place = 0; place < strands; place++) {
                if (last[place] == NONE) {
                    circles++;
                } else {
                    link(last[place], first[place]);
                }
            }
        }

        private void extend(int[] first, int[] last, int place, int v) {
            if (last[place] == NONE) {
                first[place] = v;
            } else {
                link(last[place], v);
            }
        }
    }

    /**
     * The walks round the faces. A side is a gap with a way: side 2 v goes forward along the gap
     * behind visit v, side 2 v + 1 goes backward along it.
     */
    private static final class Faces {
        private static final int MATRIX = 8;

        final int[] face = new int[2 * MAX_VISITS];
        int count;
        private final int[] colour = new int[2 * MAX_VISITS];
        private final int[] row = new int[2 * MAX_VISITS];
        private final long[] matrix = new long[MATRIX * MATRIX];
        private final long[] power = new long[MATRIX * MATRIX];
        private final long[] product = new long[MATRIX * MATRIX];
        private final long[] characteristic = new long[MATRIX + 1];

        /** The visit at which a side ends. */
        static int endOf(Net net, int side) {
            return (side & 1) == 0 ? net.next[side >> 1] : side >> 1;
        }

        static int onward(Net net, int side) {
            boolean forward = (side & 1) == 0;
            int v = forward ? net.next[side >> 1] : side >> 1;
            int mate = v ^ 1;
            boolean stays = ((v & 1) == 0) == (net.sign[v >> 1] > 0);
            return stays == forward ? 2 * mate : 2 * net.prev[mate] + 1;
        }

        void mark(Net net) {
            int sides = 4 * net.crossings;
            Arrays.fill(face, 0, sides, NONE);
            count = 0;
            for (int start = 0; start < sides; start++) {
                if (face[start] != NONE) {
                    continue;
                }
                int side = start;
                for (int i = 0; i < sides && face[side] == NONE; i++) {
                    face[side] = count;
                    side = onward(net, side);
                }
                count++;
            }
        }

        /** No part can have more faces than a plane one, so the sum tells of each. */
        boolean isPlane(Net net) {
            net.markParts();
            mark(net);
            return count == net.crossings + 2 * net.parts;
        }

        int signatureOf(Net net) {
            net.markParts();
            mark(net);
            Arrays.fill(colour, 0, count, NONE);
            int sum = 0;
            for (int p = 0; p < net.parts; p++) {
                paint(net, p);
                sum += signatureOfPart(net, p, rarerColour(net, p));
            }
            return sum;
        }

        /** The faces of a part get the colours 0 and 1. */
        private void paint(Net net, int p) {
            boolean begun = false;
            boolean changed = true;
            for (int pass = 0; pass < 2 * MAX_VISITS && changed; pass++) {
                changed = false;
                for (int v = 0; v < 2 * net.crossings; v++) {
                    if (net.part[v] != p) {
                        continue;
                    }
                    int left = face[2 * v];
                    int right = face[2 * v + 1];
                    if (!begun) {
                        colour[left] = 0;
                        begun = true;
                    }
                    if (colour[left] != NONE && colour[right] == NONE) {
                        colour[right] = 1 - colour[left];
                        changed = true;
                    } else if (colour[left] == NONE && colour[right] != NONE) {
                        colour[left] = 1 - colour[right];
                        changed = true;
                    }
                }
            }
        }

        /** Either colour may be white: the rarer one makes the matrix small. */
        private int rarerColour(Net net, int p) {
            int zero = numberRows(net, p, 0);
            int one = numberRows(net, p, 1);
            return zero <= one ? 0 : 1;
        }

        /** Gives the faces of one colour rows 0, 1, ..: how many. */
        private int numberRows(Net net, int p, int white) {
            Arrays.fill(row, 0, count, NONE);
            int rows = 0;
            for (int side = 0; side < 4 * net.crossings; side++) {
                int f = face[side];
                if (net.part[side >> 1] == p && colour[f] == white && row[f] == NONE) {
                    row[f] = rows;
                    rows++;
                }
            }
            return rows;
        }

        private int signatureOfPart(Net net, int p, int white) {
            int size = numberRows(net, p, white) - 1;
            Arrays.fill(matrix, 0);
            int correction = 0;
            for (int x = 0; x < net.crossings; x++) {
                if (net.part[2 * x] != p) {
                    continue;
                }
                int f = net.sign[x] > 0 ? 2 * x : 2 * x + 1;
                int ahead = face[2 * f];
                if (colour[ahead] == white) {
                    int back = face[2 * net.prev[f ^ 1]];
                    addAt(row[ahead], row[back], -net.sign[x], size);
                } else {
                    int east = face[2 * f + 1];
                    int west = face[2 * net.prev[f]];
                    addAt(row[east], row[west], net.sign[x], size);
                    correction += net.sign[x];
                }
            }
            return eigenvalueSigns(size) - correction;
        }

        /** The row behind the last one that is kept is left out. */
        private void addAt(int u, int v, int t, int size) {
            if (u >= 0 && u < size) {
                matrix[u * MATRIX + u] += t;
            }
            if (v >= 0 && v < size) {
                matrix[v * MATRIX + v] += t;
            }
            if (u >= 0 && u < size && v >= 0 && v < size) {
                matrix[u * MATRIX + v] -= t;
                matrix[v * MATRIX + u] -= t;
            }
        }

        /** All roots are real, so changes of sign between the coefficients count them. */
        private int eigenvalueSigns(int size) {
            findCharacteristic(size);
            return signChanges(size, 1) - signChanges(size, -1);
        }

        private int signChanges(int size, int way) {
            int changes = 0;
            long last = 0;
            for (int i = 0; i <= size; i++) {
                long c = characteristic[i] * (way < 0 && (i & 1) == 1 ? -1 : 1);
                if (c != 0) {
                    if (last < 0 && c > 0 || last > 0 && c < 0) {
                        changes++;
                    }
                    last = c;
                }
            }
            return changes;
        }

        /** The method of Faddeev and LeVerrier: each trace is divided without rest. */
        private void findCharacteristic(int size) {
            Arrays.fill(characteristic, 0);
            Arrays.fill(power, 0);
            characteristic[size] = 1;
            for (int k = 1; k <= size; k++) {
                for (int i = 0; i < size; i++) {
                    power[i * MATRIX + i] += characteristic[size - k + 1];
                }
                long trace = 0;
                for (int i = 0; i < size; i++) {
                    for (int j = 0; j < size; j++) {
                        long sum = 0;
                        for (int m = 0; m < size; m++) {
                            sum += matrix[i * MATRIX + m] * power[m * MATRIX + j];
                        }
                        product[i * MATRIX + j] = sum;
                    }
                    trace += product[i * MATRIX + i];
                }
                characteristic[size - k] = -trace / k;
                System.arraycopy(product, 0, power, 0, product.length);
            }
        }
    }

    /** Finds the least codes. */
    private static final class Coder {
        final Codes out = new Codes(1);
        private final Codes one = new Codes(1);
        private final Codes sorted = new Codes(MAX_CROSSINGS);
        private final byte[] trial = new byte[2 * MAX_VISITS];
        private final int[] number = new int[MAX_CROSSINGS];
        private final int[] named = new int[MAX_CROSSINGS];

        /** The code of the net comes to out, slot 0. */
        void encode(Net net) {
            collectParts(net, sorted);
            int length = 0;
            for (int i = 0; i < sorted.size; i++) {
                int slot = sorted.order[i];
                int more = sorted.lengths[slot];
                if (length + more <= CELLS) {
                    System.arraycopy(sorted.cells, slot * CELLS, out.cells, length, more);
                    length += more;
                }
            }
            for (int i = 0; i < net.circles && length < CELLS; i++) {
                out.cells[length] = 0;
                length++;
            }
            out.lengths[0] = (byte) length;
            out.crossings[0] = (byte) net.crossings;
        }

        /** The codes of the parts with crossings, the lesser first, alike ones each. */
        void collectParts(Net net, Codes into) {
            net.markParts();
            into.size = 0;
            for (int p = 0; p < net.parts; p++) {
                encodePart(net, p);
                int where = into.find(one, 0);
                into.insert(where < 0 ? -1 - where : where, one, 0);
            }
        }

        private void encodePart(Net net, int p) {
            int least = leastFirstCell(net, p);
            int visits = 0;
            one.lengths[0] = 0;
            for (int v = 0; v < 2 * net.crossings; v++) {
                if (net.part[v] != p) {
                    continue;
                }
                visits++;
                if (firstCell(net, v) == least) {
                    int length = tryFrom(net, v);
                    if (length > 0 && length <= CELLS) {
                        System.arraycopy(trial, 0, one.cells, 0, length);
                        one.lengths[0] = (byte) length;
                    }
                }
            }
            one.crossings[0] = (byte) (visits / 2);
        }

        private static int firstCell(Net net, int v) {
            return 4 + 2 * (v & 1) + (net.sign[v >> 1] < 0 ? 1 : 0);
        }

        private static int leastFirstCell(Net net, int p) {
            int least = 8;
            for (int v = 0; v < 2 * net.crossings; v++) {
                if (net.part[v] == p) {
                    least = Math.min(least, firstCell(net, v));
                }
            }
            return least;
        }

        /** The length of the row from a start in trial; 0 if it is not less than the best one so far. */
        private int tryFrom(Net net, int start) {
            Arrays.fill(number, 0);
            byte[] best = one.cells;
            boolean tied = one.lengths[0] > 0;
            int names = 0;
            int looked = 0;
            int gone = 0;
            int length = 0;
            int from = start;
            for (int ring = 0; ring < MAX_VISITS && from != NONE; ring++) {
                int v = from;
                for (int i = 0; i < MAX_VISITS; i++) {
                    int x = v >> 1;
                    if (number[x] == 0) {
                        named[names] = x;
                        names++;
                        number[x] = names;
                    }
                    int cell = 4 * (number[x] - 1) + firstCell(net, v);
                    if (tied && cell > best[length]) {
                        return 0;
                    }
                    tied = tied && cell == best[length];
                    trial[length] = (byte) cell;
                    length++;
                    gone |= 1 << v;
                    v = net.next[v];
                    if (v == from) {
                        break;
                    }
                }
                tied = tied && best[length] == 0;
                trial[length] = 0;
                length++;
                from = NONE;
                for (; looked < names && from == NONE; looked++) {
                    int over = 2 * named[looked];
                    from = (gone >> over & 1) == 0 ? over : (gone >> over + 1 & 1) == 0 ? over + 1 : NONE;
                }
            }
            return tied ? 0 : length;
        }
    }

    /** Makes all diagrams that a move makes of one: each place where a move may be has a number. */
    private static final class Mover {
        final Codes reached = new Codes(SIMPLIFY_LIMIT + 1);
        final Codes near = new Codes(WAY_SLOTS);
        final Codes nearOther = new Codes(WAY_SLOTS);
        private final Net net = new Net();
        private final Net trial = new Net();
        private final Faces ground = new Faces();
        private final Faces faces = new Faces();
        private final Coder coder = new Coder();

        /** Adds what moves of a kind make, each once. */
        void collect(Codes from, int slot, int kind, Codes into) {
            net.load(from, slot);
            if (kind == 3) {
                net.markParts();
                ground.mark(net);
            }
            int numbers = countNumbers(kind);
            for (int number = 0; number < numbers; number++) {
                if (make(kind, number)) {
                    coder.encode(trial);
                    into.addNew(coder.out, 0);
                }
            }
        }

        private int countNumbers(int kind) {
            int visits = 2 * net.crossings;
            switch (kind) {
                case 0:
                    return net.crossings;
                case 1:
                    return net.crossings + 1 > MAX_CROSSINGS ? 0 : (visits + 1) * 4;
                case 2:
                    return net.crossings * net.crossings;
                case 3:
                    return net.crossings + 2 > MAX_CROSSINGS ? 0 : (visits + 1) * (visits + 2) * 4;
                default:
                    return 2 * visits;
            }
        }

        /** Whether there is such a move; what it makes stands in trial then. */
        private boolean make(int kind, int number) {
            switch (kind) {
                case 0:
                    return oneGoes(number);
                case 1:
                    return oneComes(number >> 2, number & 3);
                case 2:
                    return net.crossings > 0 && twoGo(number / net.crossings, number % net.crossings);
                case 3:
                    int places = 2 * net.crossings + 2;
                    return twoCome((number >> 2) / places, (number >> 2) % places, number & 3);
                default:
                    return threePass(number);
            }
        }

        private boolean oneGoes(int x) {
            if (!isLoop(net, x)) {
                return false;
            }
            trial.copy(net);
            trial.removeCrossing(x);
            return true;
        }

        static boolean isLoop(Net net, int x) {
            return isBeside(net, 2 * x, 2 * x + 1);
        }

        /** Whether one visit stands behind the other. */
        private static boolean isBeside(Net net, int v, int w) {
            return net.next[v] == w || net.next[w] == v;
        }

        /** The gap is that behind a visit, or that of a circle (one more than all visits). */
        private boolean oneComes(int gap, int choice) {
            int over = 2 * net.crossings;
            if (gap == over && net.circles == 0) {
                return false;
            }
            trial.copy(net);
            trial.crossings++;
            trial.sign[net.crossings] = (choice & 2) == 0 ? 1 : -1;
            int first = over + (choice & 1);
            placePair(gap == over ? NONE : gap, first, first ^ 1);
            return true;
        }

        /** Two visits come behind a visit, or into a circle for NONE. */
        private void placePair(int after, int first, int second) {
            if (after == NONE) {
                trial.openCircle(first);
            } else {
                trial.putBehind(after, first);
            }
            trial.putBehind(first, second);
        }

        private boolean twoGo(int x, int y) {
            if (y >= x || !isPair(net, x, y)) {
                return false;
            }
            trial.copy(net);
            trial.removeCrossing(x);
            trial.removeCrossing(y);
            return true;
        }

        static boolean isPair(Net net, int x, int y) {
            return net.sign[x] != net.sign[y] && isBeside(net, 2 * x, 2 * y) && isBeside(net, 2 * x + 1, 2 * y + 1);
        }

        /**
         * Over is a visit or a circle (one more than all visits); under is a visit, the second new visit
         * over (one more) or a circle (two more): the new ones come behind it.
         */
        private boolean twoCome(int over, int under, int choice) {
            int first = 2 * net.crossings;
            int second = first + 2;
            int needed = (over == first ? 1 : 0) + (under == first + 1 ? 1 : 0);
            if (needed > net.circles || over < first && under < first && !mayMeet(over, under)) {
                return false;
            }
            trial.copy(net);
            trial.crossings += 2;
            trial.sign[net.crossings] = (choice & 1) == 0 ? 1 : -1;
            trial.sign[net.crossings + 1] = (choice & 1) == 0 ? -1 : 1;
            placePair(over == first ? NONE : over, first, second);
            boolean same = (choice & 2) == 0;
            int after = under < first ? under : under == first ? second : NONE;
            placePair(after, same ? first + 1 : second + 1, same ? second + 1 : first + 1);
            return faces.isPlane(trial);
        }

        /** Only gaps of two parts, or of one face, can come together. */
        private boolean mayMeet(int v, int w) {
            int left = ground.face[2 * v];
            int right = ground.face[2 * v + 1];
            int otherLeft = ground.face[2 * w];
            int otherRight = ground.face[2 * w + 1];
            return net.part[v] != net.part[w] || left == otherLeft || left == otherRight
                || right == otherLeft || right == otherRight;
        }

        /** Each face is taken up by its least side alone. */
        private boolean threePass(int a) {
            int b = Faces.onward(net, a);
            int c = Faces.onward(net, b);
            if (a >= b || a >= c || Faces.onward(net, c) != a || !isPassable(a, b, c)) {
                return false;
            }
            trial.copy(net);
            trial.swapPlaces(a >> 1, net.next[a >> 1]);
            trial.swapPlaces(b >> 1, net.next[b >> 1]);
            trial.swapPlaces(c >> 1, net.next[c >> 1]);
            return true;
        }

        private boolean isPassable(int a, int b, int c) {
            int x = Faces.endOf(net, a) >> 1;
            int y = Faces.endOf(net, b) >> 1;
            int z = Faces.endOf(net, c) >> 1;
            return x != y && y != z && x != z && (isOver(a) || isOver(b) || isOver(c));
        }

        private boolean isOver(int side) {
            int v = side >> 1;
            return (v & 1) == 0 && (net.next[v] & 1) == 0;
        }

        /** All to which moves of kinds 0, 2, 4 lead; one more than the limit stands for too many. */
        void reach(Codes from, int slot) {
            reached.size = 0;
            reached.addNew(from, slot);
            for (int i = 0; i < reached.size && reached.size <= SIMPLIFY_LIMIT; i++) {
                collect(reached, i, 0, reached);
                collect(reached, i, 2, reached);
                collect(reached, i, 4, reached);
            }
        }

        /** All that one move of any kind makes. */
        void surround(Codes from, int slot, Codes into) {
            into.size = 0;
            for (int kind = 0; kind < MOVE_KINDS; kind++) {
                collect(from, slot, kind, into);
            }
        }
    }

    /** Holds the tape and reads it. */
    private static final class Reader {
        int length;
        private final byte[] tape = new byte[TAPE_BYTES];
        /** Which crossing a name has, and where in the text each visit begins; NONE: it has not come. */
        private final int[] crossingOf = new int[100];
        private final int[] begins = new int[MAX_VISITS];
        private int at;
        private int name;

        void take(int number) {
            for (int shift = 24; shift >= 0 && length < TAPE_BYTES; shift -= 8) {
                tape[length] = (byte) (number >> shift);
                length++;
            }
        }

        /** The place of the fault, or NONE; that the net is plane is not looked at. */
        int readDiagram(Net net) {
            Arrays.fill(crossingOf, NONE);
            Arrays.fill(begins, NONE);
            net.empty();
            at = 0;
            int components = 1;
            int first = NONE;
            int last = NONE;
            for (int i = 0; i < TAPE_BYTES && at < length; i++) {
                int begin = at;
                if (tape[at] == ';') {
                    components++;
                    if (components > MAX_COMPONENTS) {
                        return at;
                    }
                    finish(net, first, last);
                    first = NONE;
                    at++;
                    continue;
                }
                int fault = readVisit();
                if (fault != NONE) {
                    return fault;
                }
                int v = enter(net, begin);
                if (v == NONE) {
                    return begin;
                }
                if (first == NONE) {
                    first = v;
                } else {
                    net.link(last, v);
                }
                last = v;
            }
            finish(net, first, last);
            return firstLonely(net);
        }

        private static void finish(Net net, int first, int last) {
            if (first == NONE) {
                net.circles++;
            } else {
                net.link(last, first);
            }
        }

        /** Goes behind the visit that begins here: the place of a fault, or NONE. */
        private int readVisit() {
            if (tape[at] != 'o' && tape[at] != 'u') {
                return at;
            }
            at++;
            if (at >= length || tape[at] < '1' || tape[at] > '9') {
                return at;
            }
            name = tape[at] - '0';
            at++;
            if (at < length && tape[at] >= '0' && tape[at] <= '9') {
                name = 10 * name + tape[at] - '0';
                at++;
            }
            if (at >= length || tape[at] != '+' && tape[at] != '-') {
                return at;
            }
            at++;
            return NONE;
        }

        /** The visit that was read, if it can stand beside the ones before it; else NONE. */
        private int enter(Net net, int begin) {
            int sign = tape[at - 1] == '+' ? 1 : -1;
            int x = crossingOf[name];
            if (x == NONE) {
                if (net.crossings >= MAX_CROSSINGS) {
                    return NONE;
                }
                x = net.crossings;
                net.crossings++;
                crossingOf[name] = x;
                net.sign[x] = sign;
            }
            int v = 2 * x + (tape[begin] == 'u' ? 1 : 0);
            if (begins[v] != NONE || net.sign[x] != sign) {
                return NONE;
            }
            begins[v] = begin;
            return v;
        }

        private int firstLonely(Net net) {
            int least = NONE;
            for (int v = 0; v < 2 * net.crossings; v++) {
                if (begins[v] != NONE && begins[v ^ 1] == NONE && (least == NONE || begins[v] < least)) {
                    least = begins[v];
                }
            }
            return least;
        }

        /** The place of the fault, or NONE. */
        int readBraid(int strands, byte[] letters, int into) {
            for (int i = 0; i < length; i++) {
                int small = tape[i] - 'a';
                int capital = tape[i] - 'A';
                if (i >= MAX_LETTERS) {
                    return i;
                }
                if (small >= 0 && small < strands - 1) {
                    letters[into + i] = (byte) (small + 1);
                } else if (capital >= 0 && capital < strands - 1) {
                    letters[into + i] = (byte) -(capital + 1);
                } else {
                    return i;
                }
            }
            return NONE;
        }
    }

    /** Counts the polynomials; those of the latest diagrams are kept, as calls ask for one number each. */
    private static final class Polynomials {
        private static final int LOOPS = 24;
        private static final int X_LEAST = -64;
        private static final int X_COUNT = 129;
        private static final int Z_LEAST = -20;
        private static final int Z_COUNT = 41;
        private static final int SKEIN = 0;
        private static final int STATES = 1;

        private final Codes known = new Codes(2);
        private final Net[] levels = new Net[MAX_CROSSINGS + 1];
        private final int[] inOne = new int[MAX_CROSSINGS + 1];
        private final int[] inTwo = new int[X_COUNT * Z_COUNT];
        private final int[][] choose = new int[LOOPS][LOOPS];
        /** How many states have so many ones and so many loops. */
        private final int[] states = new int[(MAX_CROSSINGS + 1) * LOOPS];
        /** For each end of a path the path's other end. */
        private final int[] partner = new int[2 * MAX_VISITS];
        private final Net net = new Net();
        private int writhe;

        Polynomials() {
            for (int i = 0; i < levels.length; i++) {
                levels[i] = new Net();
            }
            for (int i = 0; i < LOOPS; i++) {
                choose[i][0] = 1;
                for (int j = 1; j <= i; j++) {
                    choose[i][j] = choose[i - 1][j - 1] + choose[i - 1][j];
                }
            }
        }

        private boolean isKnown(int slot, Codes codes, int at) {
            if (known.lengths[slot] > 0 && known.compare(slot, codes, at) == 0) {
                return true;
            }
            known.write(slot, codes, at);
            return false;
        }

        void unfoldCode(Codes codes, int at) {
            if (isKnown(SKEIN, codes, at)) {
                return;
            }
            Arrays.fill(inOne, 0);
            Arrays.fill(inTwo, 0);
            levels[0].load(codes, at);
            unfold(0, 1, 0, 0);
        }

        /**
         * Goes round each ring and makes it so that each crossing is come to over first: what is left then
         * can be drawn apart into circles. Each crossing that is changed on the way is smoothed a level below.
         */
        private void unfold(int level, int factor, int xPower, int zPower) {
            Net here = levels[level];
            int visits = 2 * here.crossings;
            int power = xPower;
            int met = 0;
            int gone = 0;
            int rings = 0;
            for (int start = 0; start < visits; start++) {
                if ((gone >> start & 1) != 0) {
                    continue;
                }
                rings++;
                int v = start;
                for (int i = 0; i < visits && (gone >> v & 1) == 0; i++) {
                    int x = v >> 1;
                    if ((met >> x & 1) == 0 && (v & 1) == 1) {
                        int sign = here.sign[x];
                        if (level + 1 < levels.length) {
                            levels[level + 1].copy(here);
                            levels[level + 1].smoothCrossing(x);
                            unfold(level + 1, factor * sign, power + sign, zPower + 1);
                        }
                        here.flipCrossing(x);
                        power += 2 * sign;
                        v ^= 1;
                    }
                    met |= 1 << x;
                    gone |= 1 << v;
                    v = here.next[v];
                }
            }
            addCircles(rings + here.circles, factor, power, zPower);
        }

        private void addCircles(int circles, int factor, int xPower, int zPower) {
            int more = circles - 1;
            if (more == 0 && zPower < inOne.length) {
                inOne[zPower] += factor;
            }
            for (int j = 0; j <= more && more < LOOPS; j++) {
                int at = twoIndex((long) xPower - more + 2 * j, (long) zPower - more);
                if (at != NONE) {
                    inTwo[at] += factor * choose[more][j] * ((j & 1) == 0 ? 1 : -1);
                }
            }
        }

        private static int twoIndex(long i, long j) {
            long x = i - X_LEAST;
            long z = j - Z_LEAST;
            return x < 0 || x >= X_COUNT || z < 0 || z >= Z_COUNT ? NONE : (int) (x * Z_COUNT + z);
        }

        int conwayAt(int k) {
            return k < 0 || k >= inOne.length ? 0 : inOne[k];
        }

        int twoAt(int i, int j) {
            int at = twoIndex(i, j);
            return at == NONE ? 0 : inTwo[at];
        }

        void countStates(Codes codes, int at) {
            if (isKnown(STATES, codes, at)) {
                return;
            }
            net.load(codes, at);
            writhe = net.writhe();
            Arrays.fill(states, 0);
            // A gap is a path: end 2 v where it leaves v, end 2 w + 1 where it comes to w.
            for (int v = 0; v < 2 * net.crossings; v++) {
                partner[2 * v] = 2 * net.next[v] + 1;
                partner[2 * v + 1] = 2 * net.prev[v];
            }
            takeBoth(0, 0, net.circles);
        }

        /** Takes both choices at crossing x and all behind it. */
        private void takeBoth(int x, int ones, int loops) {
            if (x >= net.crossings) {
                states[ones * LOOPS + loops]++;
                return;
            }
            int overOut = 4 * x;
            int overIn = 4 * x + 1;
            int underOut = 4 * x + 2;
            int underIn = 4 * x + 3;
            for (int one = 0; one < 2; one++) {
                boolean along = net.sign[x] > 0 == (one == 0);
                int toIn = along ? underOut : underIn;
                int toOut = along ? underIn : underOut;
                int closed = tie(overIn, toIn) + tie(overOut, toOut);
                takeBoth(x + 1, ones + one, loops + closed);
                untie(overOut, toOut);
                untie(overIn, toIn);
            }
        }

        /** Two ends are joined: 1 if that closes a loop. */
        private int tie(int a, int b) {
            if (partner[a] == b) {
                return 1;
            }
            partner[partner[a]] = partner[b];
            partner[partner[b]] = partner[a];
            return 0;
        }

        private void untie(int a, int b) {
            if (partner[a] != b) {
                partner[partner[a]] = a;
                partner[partner[b]] = b;
            }
        }

        int jonesAt(int k) {
            long power = (long) k + 3 * writhe;
            int sum = 0;
            for (int ones = 0; ones <= net.crossings; ones++) {
                for (int loops = 1; loops < LOOPS; loops++) {
                    int more = loops - 1;
                    long fourTimes = net.crossings - 2 * ones + 2 * more - power;
                    if (fourTimes % 4 == 0 && fourTimes >= 0 && fourTimes <= 4 * more) {
                        int term = states[ones * LOOPS + loops] * choose[more][(int) (fourTimes / 4)];
                        sum += (more & 1) == 0 ? term : -term;
                    }
                }
            }
            return (writhe & 1) == 0 ? sum : -sum;
        }
    }

    /** Colours the arcs, with numbers and with permutations. */
    private static final class Arcs {
        private static final int MAX_ARCS = 18;
        private static final int GROUP = 24;
        private static final int SEED = 0;
        private static final int FOLLOW = 1;
        private static final int CHECK = 2;

        /** Of the gap behind each visit. */
        private final int[] arc = new int[MAX_VISITS];
        private int arcs;
        private final long[][] matrix = new long[MAX_CROSSINGS][MAX_ARCS];
        private final long[] divisors = new long[MAX_ARCS];
        private int divisorCount;
        /** At GROUP o + x is o^-1 x o; the first m! permutations are those of m things. */
        private final byte[] conjugates = new byte[GROUP * GROUP];
        private final byte[] inverses = new byte[GROUP];
        /** How many are conjugate to the least of a class; 0 for others. */
        private final int[] classSize = new int[GROUP];
        private final int[] value = new int[MAX_ARCS];
        private int steps;
        private final int[] stepKind = new int[2 * MAX_ARCS];
        private final int[] stepTo = new int[2 * MAX_ARCS];
        private final int[] stepBy = new int[2 * MAX_ARCS];
        private final int[] stepFrom = new int[2 * MAX_ARCS];
        private final boolean[] stepInverse = new boolean[2 * MAX_ARCS];
        private int used;

        Arcs() {
            int[] packed = new int[GROUP];
            listPermutations(packed);
            for (int o = 0; o < GROUP; o++) {
                for (int x = 0; x < GROUP; x++) {
                    int image = 0;
                    for (int j = 0; j < 4; j++) {
                        int from = Form.image(packed[o], j);
                        image |= Form.image(packed[o], Form.image(packed[x], j)) << 4 * from;
                    }
                    conjugates[GROUP * o + x] = (byte) indexOf(packed, image);
                }
                inverses[o] = (byte) indexOf(packed, Form.invert(packed[o], 4));
            }
        }

        /** Those that leave the last things where they are come first. */
        private static void listPermutations(int[] packed) {
            int count = 0;
            for (int number = 0; number < 256 && count < GROUP; number++) {
                int d = 3 - (number >> 6);
                int c = 3 - (number >> 4 & 3);
                int b = 3 - (number >> 2 & 3);
                int a = 3 - (number & 3);
                if ((1 << a | 1 << b | 1 << c | 1 << d) == 15) {
                    packed[count] = a | b << 4 | c << 8 | d << 12;
                    count++;
                }
            }
        }

        private static int indexOf(int[] packed, int image) {
            for (int i = 0; i < packed.length; i++) {
                if (packed[i] == image) {
                    return i;
                }
            }
            return 0;
        }

        private void markArcs(Net net) {
            int visits = 2 * net.crossings;
            Arrays.fill(arc, NONE);
            arcs = 0;
            // First those that begin behind a visit under, then rings that have none.
            for (int under = 1; under >= 0; under--) {
                for (int start = under; start < visits; start += 2) {
                    if (arc[start] != NONE) {
                        continue;
                    }
                    int v = start;
                    for (int i = 0; i < visits && (i == 0 || (v & 1) == 0) && arc[v] == NONE; i++) {
                        arc[v] = arcs;
                        v = net.next[v];
                    }
                    arcs++;
                }
            }
            arcs += net.circles;
        }

        void findCover(Net net) {
            markArcs(net);
            for (int x = 0; x < net.crossings; x++) {
                Arrays.fill(matrix[x], 0);
                matrix[x][arc[2 * x]] += 2;
                matrix[x][arc[2 * x + 1]]--;
                matrix[x][arc[net.prev[2 * x + 1]]]--;
            }
            divisorCount = 0;
            int rank = 0;
            for (int t = 0; t < net.crossings && t < arcs; t++) {
                if (!isolate(t, net.crossings)) {
                    break;
                }
                rank++;
                if (Math.abs(matrix[t][t]) != 1) {
                    divisors[divisorCount] = Math.abs(matrix[t][t]);
                    divisorCount++;
                }
            }
            for (int i = rank + 1; i < arcs; i++) {
                divisors[divisorCount] = 0;
                divisorCount++;
            }
        }

        /** Brings a number that divides all others to t, t, with 0 beside and below; false if all are 0. */
        private boolean isolate(int t, int rows) {
            for (int i = 0; i < 1000; i++) {
                if (!bringLeast(t, rows)) {
                    return false;
                }
                if (!clearCross(t, rows)) {
                    continue;
                }
                int row = undivided(t, rows);
                if (row == NONE) {
                    return true;
                }
                for (int c = t; c < arcs; c++) {
                    matrix[t][c] += matrix[row][c];
                }
                clearCross(t, rows);
            }
            return true;
        }

        private boolean bringLeast(int t, int rows) {
            int row = NONE;
            int column = NONE;
            long least = 0;
            for (int r = t; r < rows; r++) {
                for (int c = t; c < arcs; c++) {
                    long size = Math.abs(matrix[r][c]);
                    if (size > 0 && (row == NONE || size < least)) {
                        row = r;
                        column = c;
                        least = size;
                    }
                }
            }
            if (row == NONE) {
                return false;
            }
            for (int c = 0; c < arcs; c++) {
                long moved = matrix[t][c];
                matrix[t][c] = matrix[row][c];
                matrix[row][c] = moved;
            }
            for (int r = 0; r < rows; r++) {
                long moved = matrix[r][t];
                matrix[r][t] = matrix[r][column];
                matrix[r][column] = moved;
            }
            return true;
        }

        /** Takes multiples of row t and column t from the others: whether only t, t is left of both. */
        private boolean clearCross(int t, int rows) {
            long pivot = matrix[t][t];
            if (pivot == 0) {
                return false;
            }
            boolean clear = true;
            for (int r = t + 1; r < rows; r++) {
                long times = matrix[r][t] / pivot;
                for (int c = t; c < arcs && times != 0; c++) {
                    matrix[r][c] -= times * matrix[t][c];
                }
                clear &= matrix[r][t] == 0;
            }
            for (int c = t + 1; c < arcs; c++) {
                long times = matrix[t][c] / pivot;
                for (int r = t; r < rows && times != 0; r++) {
                    matrix[r][c] -= times * matrix[r][t];
                }
                clear &= matrix[t][c] == 0;
            }
            return clear;
        }

        private int undivided(int t, int rows) {
            long pivot = matrix[t][t];
            for (int r = t + 1; r < rows && pivot != 0; r++) {
                for (int c = t + 1; c < arcs; c++) {
                    if (matrix[r][c] % pivot != 0) {
                        return r;
                    }
                }
            }
            return NONE;
        }

        int coverAt(int k) {
            return k < 0 || k >= divisorCount ? NONE : (int) divisors[k];
        }

        long countColours(int m) {
            long count = m;
            for (int i = 0; i < divisorCount; i++) {
                count *= commonDivisor(m, divisors[i]);
            }
            return count;
        }

        private static long commonDivisor(long a, long b) {
            long x = a;
            long y = b;
            for (int i = 0; i < 200 && y != 0; i++) {
                long rest = x % y;
                x = y;
                y = rest;
            }
            return x;
        }

        long countMaps(Net net, int m) {
            int group = m == 4 ? 24 : m == 3 ? 6 : m;
            markArcs(net);
            net.markParts();
            findClasses(group);
            long count = 1;
            for (int i = 0; i < net.circles; i++) {
                count *= group;
            }
            for (int p = 0; p < net.parts; p++) {
                planPart(net, p);
                count *= countFrom(0, 0, group);
            }
            return count;
        }

        private void findClasses(int group) {
            Arrays.fill(classSize, 0);
            for (int x = 0; x < group; x++) {
                int least = x;
                for (int o = 0; o < group; o++) {
                    least = Math.min(least, conjugates[GROUP * o + x]);
                }
                classSize[least]++;
            }
        }

        /** Plans by which arcs, as few as can be, all others of the part are known. */
        private void planPart(Net net, int p) {
            int all = 0;
            for (int v = 0; v < 2 * net.crossings; v++) {
                if (net.part[v] == p) {
                    all |= 1 << arc[v];
                }
            }
            for (int size = 1; size <= arcs; size++) {
                for (int seeds = 1; seeds <= all; seeds++) {
                    if ((seeds & ~all) == 0 && Integer.bitCount(seeds) == size && planFrom(net, p, seeds) == all) {
                        return;
                    }
                }
            }
        }

        /** Lays out the steps from some seeds: all arcs that are known by them. */
        private int planFrom(Net net, int p, int seeds) {
            int known = 0;
            steps = 0;
            used = 0;
            for (int a = 0; a < arcs; a++) {
                if ((seeds >> a & 1) == 0 || (known >> a & 1) != 0) {
                    continue;
                }
                addStep(SEED, a, a, a, false);
                known |= 1 << a;
                for (int pass = 0; pass < MAX_CROSSINGS; pass++) {
                    int before = known;
                    for (int x = 0; x < net.crossings; x++) {
                        if (net.part[2 * x] == p && (used >> x & 1) == 0) {
                            known = planCrossing(net, x, known);
                        }
                    }
                    if (known == before && pass > 0) {
                        break;
                    }
                }
            }
            return known;
        }

        /** Adds a step if the crossing tells of a new arc, or of none but holds all three. */
        private int planCrossing(Net net, int x, int known) {
            int over = arc[2 * x];
            int in = arc[net.prev[2 * x + 1]];
            int out = arc[2 * x + 1];
            boolean plus = net.sign[x] > 0;
            boolean hasIn = (known >> in & 1) != 0;
            boolean hasOut = (known >> out & 1) != 0;
            boolean hasOver = (known >> over & 1) != 0;
            if (over == in || over == out) {
                // What is one with the arc over goes through unchanged.
                hasOver = hasIn || hasOut;
                over = hasIn ? in : out;
            }
            if (!hasOver || !hasIn && !hasOut) {
                return known;
            }
            used |= 1 << x;
            if (hasIn && hasOut) {
                addStep(CHECK, out, over, in, !plus);
            } else if (hasIn) {
                addStep(FOLLOW, out, over, in, !plus);
            } else {
                addStep(FOLLOW, in, over, out, plus);
            }
            return known | 1 << in | 1 << out;
        }

        private void addStep(int kind, int to, int by, int from, boolean inverse) {
            if (steps < stepKind.length) {
                stepKind[steps] = kind;
                stepTo[steps] = to;
                stepBy[steps] = by;
                stepFrom[steps] = from;
                stepInverse[steps] = inverse;
                steps++;
            }
        }

        /** How many ways there are from a step on; the first seed stands for its whole class. */
        private long countFrom(int step, int seeds, int group) {
            if (seeds > MAX_ARCS) {
                return 0;
            }
            for (int s = step; s < steps; s++) {
                if (stepKind[s] == SEED) {
                    long sum = 0;
                    for (int g = 0; g < group; g++) {
                        int weight = seeds == 0 ? classSize[g] : 1;
                        value[stepTo[s]] = g;
                        sum += weight == 0 ? 0 : weight * countFrom(s + 1, seeds + 1, group);
                    }
                    return sum;
                }
                int by = value[stepBy[s]];
                int image = conjugates[GROUP * (stepInverse[s] ? inverses[by] : by) + value[stepFrom[s]]];
                if (stepKind[s] == FOLLOW) {
                    value[stepTo[s]] = image;
                } else if (value[stepTo[s]] != image) {
                    return 0;
                }
            }
            return 1;
        }
    }

    /** Ranks of the chain groups. */
    private static final class Chains {
        private static final int MOST = 8;
        private static final int GAPS = 16;
        private static final int LOOPS = 10;
        /** Degrees are Q without what the signs add: this is the least one, and how many there are. */
        private static final int LEAST = -20;
        private static final int DEGREES = 56;

        private final Net net = new Net();
        /** For each state: the loop of each gap, how many loops, a gap of each loop. */
        private final byte[] loopOf = new byte[256 * GAPS];
        private final int[] loops = new int[256];
        private final byte[] gapOf = new byte[256 * LOOPS];
        /** Which set of loops it is among those with as many. */
        private final int[] placeOf = new int[1 << LOOPS];
        private final int[][] choose = new int[LOOPS + 1][LOOPS + 1];
        /** For the degree at hand: how many loops have +, where the generators of a state begin. */
        private final int[] plus = new int[256];
        private final int[] begins = new int[256];
        private final int[] sizes = new int[MOST + 2];
        private int prime;
        private int[] work = new int[640];
        /** Where the kept row with its first number in this column begins and ends; NONE: there is none. */
        private int[] rowFrom = new int[640];
        private int[] rowTo = new int[640];
        /** 1 for generators that need not be looked at. */
        private int[] cleared = new int[640];
        private int[] columns = new int[20000];
        private int[] values = new int[20000];
        private int used;
        private final int[] ranks = new int[(MOST + 1) * DEGREES];
        private int writhe;
        private int negatives;

        Chains() {
            for (int i = 0; i <= LOOPS; i++) {
                choose[i][0] = 1;
                for (int j = 1; j <= i; j++) {
                    choose[i][j] = choose[i - 1][j - 1] + choose[i - 1][j];
                }
            }
            int[] counts = new int[LOOPS + 1];
            for (int set = 0; set < placeOf.length; set++) {
                placeOf[set] = counts[Integer.bitCount(set)];
                counts[Integer.bitCount(set)]++;
            }
        }

        int compute(Net from, int p) {
            net.copy(from);
            tidy();
            prime = p;
            writhe = net.writhe();
            negatives = (net.crossings - writhe) / 2;
            markLoops();
            Arrays.fill(ranks, 0);
            for (int degree = -LOOPS; degree <= LOOPS + MOST; degree++) {
                rankDegree(degree);
            }
            for (int i = 0; i < net.circles; i++) {
                addCircle();
            }
            int sum = 0;
            for (int i = 0; i < ranks.length; i++) {
                sum += ranks[i];
            }
            return sum;
        }

        int rankAt(int i, int q) {
            long ones = (long) i + negatives;
            long column = (long) q - writhe + negatives - LEAST;
            return ones < 0 || ones > MOST || column < 0 || column >= DEGREES ? 0 : ranks[(int) (ones * DEGREES + column)];
        }

        /** Moves leave the ranks alike, so those that take crossings away make the work small. */
        private void tidy() {
            boolean found = true;
            for (int i = 0; i <= MOST && found; i++) {
                found = tidyOnce();
            }
        }

        private boolean tidyOnce() {
            for (int x = 0; x < net.crossings; x++) {
                if (Mover.isLoop(net, x)) {
                    net.removeCrossing(x);
                    return true;
                }
                for (int y = 0; y < x; y++) {
                    if (Mover.isPair(net, x, y)) {
                        net.removeCrossing(x);
                        net.removeCrossing(y);
                        return true;
                    }
                }
            }
            return false;
        }

        private void markLoops() {
            int gaps = 2 * net.crossings;
            for (int state = 0; state < 1 << net.crossings; state++) {
                int count = 0;
                Arrays.fill(loopOf, state * GAPS, state * GAPS + gaps, (byte) NONE);
                for (int gap = 0; gap < gaps; gap++) {
                    if (loopOf[state * GAPS + gap] == NONE) {
                        gapOf[state * LOOPS + count] = (byte) gap;
                        goRound(state, gap, count);
                        count++;
                    }
                }
                loops[state] = count;
            }
        }

        private void goRound(int state, int start, int loop) {
            int gap = start;
            boolean forward = true;
            for (int i = 0; i < GAPS && loopOf[state * GAPS + gap] == NONE; i++) {
                loopOf[state * GAPS + gap] = (byte) loop;
                int v = forward ? net.next[gap] : gap;
                boolean along = net.sign[v >> 1] > 0 == ((state >> (v >> 1) & 1) == 0);
                forward = along == forward;
                gap = forward ? v ^ 1 : net.prev[v ^ 1];
            }
        }

        /** Finds the ranks of one degree from group to group. */
        private void rankDegree(int degree) {
            layOut(degree);
            int before = 0;
            for (int ones = 0; ones <= net.crossings; ones++) {
                int rank = 0;
                if (sizes[ones] > 0 && sizes[ones + 1] > 0) {
                    rank = eliminate(ones);
                }
                ranks[ones * DEGREES + degree - LEAST] = sizes[ones] - rank - before;
                before = rank;
                // D of D is 0: generators that begin a D of something need not be looked at.
                for (int g = 0; g < sizes[ones + 1]; g++) {
                    cleared[g] = rank > 0 && rowFrom[g] != NONE ? 1 : 0;
                }
            }
        }

        private void layOut(int degree) {
            Arrays.fill(sizes, 0);
            for (int state = 0; state < 1 << net.crossings; state++) {
                int ones = Integer.bitCount(state);
                int twice = loops[state] + degree - ones;
                boolean fits = (twice & 1) == 0 && twice >= 0 && twice <= 2 * loops[state];
                plus[state] = fits ? twice / 2 : NONE;
                begins[state] = sizes[ones];
                sizes[ones] += fits ? choose[loops[state]][twice / 2] : 0;
            }
            for (int ones = 0; ones < sizes.length; ones++) {
                makeRoom(sizes[ones]);
            }
            Arrays.fill(cleared, 0);
        }

        private void makeRoom(int size) {
            if (size > work.length) {
                work = new int[2 * size];
                rowFrom = new int[2 * size];
                rowTo = new int[2 * size];
                cleared = new int[2 * size];
            }
        }

        /** The rank of D from the generators with so many ones. */
        private int eliminate(int ones) {
            int width = sizes[ones + 1];
            int rank = 0;
            used = 0;
            Arrays.fill(rowFrom, 0, width, NONE);
            Arrays.fill(work, 0, width, 0);
            for (int state = 0; state < 1 << net.crossings; state++) {
                if (Integer.bitCount(state) != ones || plus[state] == NONE) {
                    continue;
                }
                for (int set = 0; set < 1 << loops[state]; set++) {
                    if (Integer.bitCount(set) == plus[state] && cleared[begins[state] + placeOf[set]] == 0) {
                        writeImage(state, set);
                        rank += reduce(width);
                    }
                }
            }
            return rank;
        }

        /** D of a generator comes to the work row. */
        private void writeImage(int state, int set) {
            for (int x = 0; x < net.crossings; x++) {
                if ((state >> x & 1) != 0) {
                    continue;
                }
                int to = state | 1 << x;
                int first = loopOf[state * GAPS + 2 * x];
                int second = otherLoop(state, x);
                int newFirst = loopOf[to * GAPS + 2 * x];
                int newSecond = otherLoop(to, x);
                int kept = carry(state, set, to, newFirst, newSecond);
                int number = (Integer.bitCount(state & (1 << x) - 1) & 1) == 0 ? 1 : prime - 1;
                boolean firstPlus = (set >> first & 1) != 0;
                boolean secondPlus = (set >> second & 1) != 0;
                if (first != second) {
                    if (firstPlus || secondPlus) {
                        addTo(to, firstPlus && secondPlus ? kept | 1 << newFirst : kept, number);
                    }
                } else if (firstPlus) {
                    addTo(to, kept | 1 << newFirst, number);
                    addTo(to, kept | 1 << newSecond, number);
                } else {
                    addTo(to, kept, number);
                }
            }
        }

        /** The loop at a crossing that is not that of the gap behind its visit over, or that one. */
        private int otherLoop(int state, int x) {
            int at = state * GAPS;
            int first = loopOf[at + 2 * x];
            int behind = loopOf[at + 2 * x + 1];
            int before = loopOf[at + net.prev[2 * x]];
            int last = loopOf[at + net.prev[2 * x + 1]];
            return behind != first ? behind : before != first ? before : last;
        }

        /** The loops with + that are not at the crossing, as the next state numbers them. */
        private int carry(int state, int set, int to, int first, int second) {
            int kept = 0;
            for (int loop = 0; loop < loops[to]; loop++) {
                if (loop != first && loop != second) {
                    int old = loopOf[state * GAPS + gapOf[to * LOOPS + loop]];
                    kept |= (set >> old & 1) << loop;
                }
            }
            return kept;
        }

        private void addTo(int state, int set, int number) {
            int column = begins[state] + placeOf[set];
            work[column] = (work[column] + number) % prime;
        }

        /** Takes kept rows from the work row; 1 if something is left, which is kept. */
        private int reduce(int width) {
            for (int c = 0; c < width; c++) {
                int number = work[c];
                if (number == 0) {
                    continue;
                }
                if (rowFrom[c] == NONE) {
                    keepRow(c, width);
                    return 1;
                }
                for (int i = rowFrom[c]; i < rowTo[c]; i++) {
                    work[columns[i]] = (work[columns[i]] + (prime - number) * values[i]) % prime;
                }
            }
            return 0;
        }

        /** Keeps the work row, made so that it begins with 1, and empties it. */
        private void keepRow(int first, int width) {
            if (used + width - first > columns.length) {
                columns = Arrays.copyOf(columns, 2 * (used + width));
                values = Arrays.copyOf(values, 2 * (used + width));
            }
            int times = reciprocal(work[first]);
            rowFrom[first] = used;
            for (int c = first; c < width; c++) {
                if (work[c] != 0) {
                    columns[used] = c;
                    values[used] = work[c] * times % prime;
                    used++;
                    work[c] = 0;
                }
            }
            rowTo[first] = used;
        }

        /** The power prime - 2, by Fermat. */
        private int reciprocal(int number) {
            int result = 1;
            int square = number;
            for (int left = prime - 2; left > 0; left >>= 1) {
                result = (left & 1) == 1 ? result * square % prime : result;
                square = square * square % prime;
            }
            return result;
        }

        /** One more loop, with + or -, beside each generator. */
        private void addCircle() {
            for (int ones = 0; ones <= MOST; ones++) {
                int at = ones * DEGREES;
                int below = 0;
                for (int column = 0; column < DEGREES; column++) {
                    int here = ranks[at + column];
                    int above = column + 1 < DEGREES ? ranks[at + column + 1] : 0;
                    ranks[at + column] = below + above;
                    below = here;
                }
            }
        }
    }

    /** A braid in normal form; a simple one is the places to which it takes 0, 1, .., four bits each. */
    private static final class Form {
        private static final int ROOM = 24;
        /** A delta of five strands has so many. */
        private static final int LETTERS = 10;

        int strands;
        int power;
        int length;
        final int[] factors = new int[ROOM];
        private int identity;
        private int delta;

        static int image(int simple, int j) {
            return simple >> 4 * j & 15;
        }

        static int invert(int simple, int strands) {
            int inverse = 0;
            for (int j = 0; j < strands; j++) {
                inverse |= j << 4 * image(simple, j);
            }
            return inverse;
        }

        private static int identityOf(int strands) {
            int simple = 0;
            for (int j = 0; j < strands; j++) {
                simple |= j << 4 * j;
            }
            return simple;
        }

        private static int deltaOf(int strands) {
            int simple = 0;
            for (int j = 0; j < strands; j++) {
                simple |= strands - 1 - j << 4 * j;
            }
            return simple;
        }

        /** What a simple one becomes when a delta goes through it. */
        static int turned(int simple, int strands) {
            int result = 0;
            for (int j = 0; j < strands; j++) {
                result |= strands - 1 - image(simple, strands - 1 - j) << 4 * j;
            }
            return result;
        }

        /** The images of a place and the next one change: a letter comes, or goes, before the simple one. */
        private static int exchanged(int simple, int place) {
            int both = image(simple, place) ^ image(simple, place + 1);
            return simple ^ both << 4 * place ^ both << 4 * (place + 1);
        }

        /** A letter comes, or goes, behind the simple one. */
        private static int exchangedBehind(int simple, int place, int strands) {
            return invert(exchanged(invert(simple, strands), place), strands);
        }

        void begin(int count) {
            strands = count;
            power = 0;
            length = 0;
            identity = identityOf(count);
            delta = deltaOf(count);
        }

        void copy(Form from) {
            begin(from.strands);
            power = from.power;
            length = from.length;
            System.arraycopy(from.factors, 0, factors, 0, length);
        }

        boolean sameAs(Form from) {
            if (strands != from.strands || power != from.power || length != from.length) {
                return false;
            }
            for (int i = 0; i < length; i++) {
                if (factors[i] != from.factors[i]) {
                    return false;
                }
            }
            return true;
        }

        /** A letter comes behind: 1, 2, .. small, -1, -2, .. capital. */
        void takeLetter(int letter) {
            int place = Math.abs(letter) - 1;
            if (letter > 0) {
                putBehind(exchanged(identity, place));
                return;
            }
            // A capital letter is a delta taken away, and the rest of that delta.
            for (int i = 0; i < length; i++) {
                factors[i] = turned(factors[i], strands);
            }
            power--;
            putBehind(exchangedBehind(delta, place, strands));
        }

        void putBehind(int simple) {
            if (length >= ROOM) {
                return;
            }
            factors[length] = simple;
            length++;
            boolean changed = true;
            for (int i = length - 2; i >= 0 && changed; i--) {
                changed = weigh(i);
            }
            strip();
        }

        /** Comes between the deltas and the first factor. */
        void putBefore(int simple) {
            if (length >= ROOM) {
                return;
            }
            System.arraycopy(factors, 0, factors, 1, length);
            factors[0] = simple;
            length++;
            boolean changed = true;
            for (int i = 0; i < length - 1 && changed; i++) {
                changed = weigh(i);
            }
            strip();
        }

        /** Letters go from a factor to the one before it as long as that one stays simple: whether one did. */
        private boolean weigh(int i) {
            int inverse = invert(factors[i], strands);
            int second = factors[i + 1];
            int x = movable(inverse, second);
            if (x == NONE) {
                return false;
            }
            for (int gone = 0; gone < LETTERS && x != NONE; gone++) {
                inverse = exchanged(inverse, x);
                second = exchanged(second, x);
                x = movable(inverse, second);
            }
            factors[i] = invert(inverse, strands);
            factors[i + 1] = second;
            return true;
        }

        /** A letter with which the second may begin and the first, of which the inverse is told, may go on. */
        private int movable(int inverse, int second) {
            for (int x = 0; x < strands - 1; x++) {
                if (image(second, x) > image(second, x + 1) && image(inverse, x) < image(inverse, x + 1)) {
                    return x;
                }
            }
            return NONE;
        }

        private void strip() {
            int deltas = 0;
            while (deltas < length && factors[deltas] == delta) {
                deltas++;
            }
            power += deltas;
            length -= deltas;
            System.arraycopy(factors, deltas, factors, 0, length);
            while (length > 0 && factors[length - 1] == identity) {
                length--;
            }
        }

        /** The first factor goes behind the last one. */
        void cycle() {
            if (length > 0) {
                int first = (power & 1) == 0 ? factors[0] : turned(factors[0], strands);
                length--;
                System.arraycopy(factors, 1, factors, 0, length);
                putBehind(first);
            }
        }

        /** The last factor goes before the first one. */
        void decycle() {
            if (length > 0) {
                int last = factors[length - 1];
                length--;
                putBefore((power & 1) == 0 ? last : turned(last, strands));
            }
        }

        /** Becomes X b x for a simple x. */
        void conjugateBy(int simple) {
            int inverse = invert(simple, strands);
            int rest = 0;
            for (int j = 0; j < strands; j++) {
                rest |= image(inverse, strands - 1 - j) << 4 * j;
            }
            int before = (power & 1) == 0 ? rest : turned(rest, strands);
            power--;
            putBefore(before);
            putBehind(simple);
        }
    }

    /** A summit set: its braids have the same power and length, so that only factors are kept. */
    private static final class Summit {
        private static final int WIDTH = 20;
        /** Where neither end gets better in so many steps, it will not: there are at most 6 letters in delta. */
        private static final int STEPS = 30;

        private int strands;
        private int power;
        private int length;
        private int size;
        private final int[] rows = new int[(SUMMIT_LIMIT + 1) * WIDTH];
        private final int[] order = new int[SUMMIT_LIMIT + 1];
        private final Form work = new Form();
        private final int[] simples = new int[24];
        private final int[] changes = new int[24];
        private final int[] stayed = new int[24];
        private int simpleCount;

        /** How many are in the set of a braid, or OPEN. */
        int find(Form from) {
            strands = from.strands;
            work.copy(from);
            listSimples();
            for (int i = 0; i < 100; i++) {
                climb();
                begin();
                if (gather()) {
                    return size > SUMMIT_LIMIT ? OPEN : size;
                }
            }
            return OPEN;
        }

        /** Those of fewer letters come first; the empty one is left out. */
        private void listSimples() {
            simpleCount = 0;
            for (int letters = 1; letters <= 6; letters++) {
                for (int number = 0; number < 1 << 2 * strands; number++) {
                    int simple = 0;
                    int places = 0;
                    for (int j = 0; j < strands; j++) {
                        int place = number >> 2 * j & 3;
                        simple |= place << 4 * j;
                        places |= 1 << place;
                    }
                    boolean good = places == (1 << strands) - 1 && simpleCount < simples.length;
                    if (good && Integer.bitCount(changesOf(simple)) == letters) {
                        simples[simpleCount] = simple;
                        changes[simpleCount] = changesOf(simple);
                        simpleCount++;
                    }
                }
            }
        }

        /** Which two strands change in a simple one, a bit for each two. */
        private int changesOf(int simple) {
            int result = 0;
            for (int i = 0; i < strands; i++) {
                for (int j = i + 1; j < strands; j++) {
                    result |= Form.image(simple, i) > Form.image(simple, j) ? 1 << 4 * i + j : 0;
                }
            }
            return result;
        }

        private void climb() {
            int idle = 0;
            for (int i = 0; i < 2000 && idle < STEPS; i++) {
                int before = work.power;
                work.cycle();
                idle = work.power > before ? 0 : idle + 1;
            }
            idle = 0;
            for (int i = 0; i < 2000 && idle < STEPS; i++) {
                int before = work.power + work.length;
                work.decycle();
                idle = work.power + work.length < before ? 0 : idle + 1;
            }
        }

        private void begin() {
            power = work.power;
            length = work.length;
            size = 0;
            add();
        }

        /** Goes on from each found one; false if a better one was met, which is in work then. */
        private boolean gather() {
            for (int i = 0; i < size && size <= SUMMIT_LIMIT; i++) {
                int stays = 0;
                for (int s = 0; s < simpleCount && size <= SUMMIT_LIMIT; s++) {
                    if (goesOn(s, stays)) {
                        continue;
                    }
                    work.power = power;
                    work.length = length;
                    System.arraycopy(rows, i * WIDTH, work.factors, 0, length);
                    work.conjugateBy(simples[s]);
                    if (work.power > power || work.power == power && work.length < length) {
                        return false;
                    }
                    if (work.power == power && work.length == length) {
                        add();
                        stayed[stays] = changes[s];
                        stays++;
                    }
                }
            }
            return true;
        }

        /** Whether a simple one begins with one that led into the set: the rest of it goes on from there. */
        private boolean goesOn(int s, int stays) {
            for (int t = 0; t < stays; t++) {
                if ((stayed[t] & ~changes[s]) == 0) {
                    return true;
                }
            }
            return false;
        }

        /** The work form is kept, if it is new. */
        private void add() {
            int low = 0;
            int high = size;
            for (int i = 0; i < 16 && low < high; i++) {
                int middle = (low + high) >>> 1;
                int difference = compare(rows, order[middle] * WIDTH, work.factors, 0);
                if (difference == 0) {
                    return;
                }
                if (difference < 0) {
                    low = middle + 1;
                } else {
                    high = middle;
                }
            }
            if (size > SUMMIT_LIMIT || length > WIDTH) {
                return;
            }
            System.arraycopy(work.factors, 0, rows, size * WIDTH, length);
            System.arraycopy(order, low, order, low + 1, size - low);
            order[low] = size;
            size++;
        }

        private int compare(int[] one, int at, int[] two, int from) {
            for (int i = 0; i < length; i++) {
                if (one[at + i] != two[from + i]) {
                    return one[at + i] < two[from + i] ? -1 : 1;
                }
            }
            return 0;
        }

        boolean sameAs(Summit from) {
            if (strands != from.strands || power != from.power || length != from.length || size != from.size) {
                return false;
            }
            for (int i = 0; i < size; i++) {
                if (compare(rows, order[i] * WIDTH, from.rows, from.order[i] * WIDTH) != 0) {
                    return false;
                }
            }
            return true;
        }
    }
}
