import java.util.Random;

/** What goes with a vertex that is removed or contracted, what stays, and what other changes leave. */
public final class GoneTest {
    private static final Class<?> INDEX = IndexOutOfBoundsException.class;
    private static final Class<?> ARGUMENT = IllegalArgumentException.class;
    private static final Class<?> NONE = java.util.NoSuchElementException.class;
    private static final Class<?> UNSUPPORTED = UnsupportedOperationException.class;
    private static final String ORDERS = "tpcbr";
    private static final int ALL = 63;

    /** One way in which a vertex goes. */
    private interface Going {
        int from(Bramblehall x);
    }

    public static void main(String[] args) {
        for (int i = 0; i < 6; i++) {
            int v = i;
            everything("removed " + v, v, x -> x.remove(v));
            for (int j = 0; j < 6; j++) {
                int into = j;
                if (v != into) {
                    everything("contracted " + v + " into " + into, v, x -> x.contract(v, into));
                }
            }
        }
        loneOneGoes();
        contracting();
        nothingGoesInPlace();
        vertexComes();
        edgeComesOrGoes();
        answersChangeNothing();
        Due.end();
    }

    private static void everything(String name, int gone, Going going) {
        for (int seed = 0; seed < 12; seed++) {
            String what = name + ", graph " + seed;
            order(what, seed, gone, going);
            partOfOrder(what, seed, gone, going);
            bags(what, seed, gone, going);
            hyperedges(what, seed, gone, going);
            family(what, seed, gone, going);
            parts(what, seed, gone, going);
            clauses(what, seed, gone, going);
            graph(what, seed, gone, going);
        }
    }

    /** Six vertices of unlike weights; the graphs of some seeds hang together, others have lone vertices. */
    private static Bramblehall made(int seed) {
        Random random = new Random(seed);
        Bramblehall x = new Bramblehall();
        for (int v = 0; v < 6; v++) {
            x.vertex(10 + v * v);
        }
        double likely = 0.15 + 0.07 * seed;
        for (int v = 0; v < 6; v++) {
            for (int w = 0; w < v; w++) {
                if (random.nextDouble() < likely) {
                    x.edge(v, w, true);
                }
            }
        }
        return x;
    }

    private static int[] someOrder(int seed) {
        int[] order = {0, 1, 2, 3, 4, 5};
        Random random = new Random(100 + seed);
        for (int i = 5; i > 0; i--) {
            int j = random.nextInt(i + 1);
            int kept = order[i];
            order[i] = order[j];
            order[j] = kept;
        }
        return order;
    }

    private static Bramblehall after(int seed, Going going) {
        Bramblehall x = made(seed);
        going.from(x);
        return x;
    }

    // ---- the order leaves out the one that goes, and keeps the others in their places

    private static void order(String what, int seed, int gone, Going going) {
        Bramblehall x = made(seed);
        for (int v : someOrder(seed)) {
            x.place(v);
        }
        going.from(x);
        Bramblehall due = after(seed, going);
        for (int v : someOrder(seed)) {
            if (v != gone) {
                due.place(v);
            }
        }
        for (char kind : ORDERS.toCharArray()) {
            Due.is("15: " + kind + ", " + what, due.widthOf(kind), () -> x.widthOf(kind));
        }
        for (int v = 0; v < 6; v++) {
            int vertex = v;
            Due.fails("13: " + v + " of the whole, " + what, v == gone ? INDEX : UNSUPPORTED, () -> x.place(vertex));
        }
        Due.is("14: " + what, 5, () -> x.clearOrder());
        Due.is("14: emptied, " + what, 0, () -> x.clearOrder());
    }

    private static void partOfOrder(String what, int seed, int gone, Going going) {
        for (int length = 0; length < 6; length++) {
            Bramblehall x = made(seed);
            int due = 0;
            for (int i = 0; i < length; i++) {
                int v = someOrder(seed)[i];
                x.place(v);
                due += v == gone ? 0 : 1;
            }
            going.from(x);
            int left = due;
            if (left < 5) {
                Due.fails("15: " + length + " told, " + what, UNSUPPORTED, () -> x.widthOf('b'));
            } else {
                Due.is("15: " + length + " told, " + what, goneWithOrder(seed, gone, going).widthOf('b'),
                        () -> x.widthOf('b'));
            }
            Due.is("14: " + length + " told, " + what, left, () -> x.clearOrder());
        }
    }

    private static Bramblehall goneWithOrder(int seed, int gone, Going going) {
        Bramblehall x = after(seed, going);
        for (int v : someOrder(seed)) {
            if (v != gone) {
                x.place(v);
            }
        }
        return x;
    }

    // ---- it goes from all bags; their numbers and those above them stay

    private static void bags(String what, int seed, int gone, Going going) {
        Random random = new Random(200 + seed);
        Bramblehall x = made(seed);
        Bramblehall due = after(seed, going);
        for (int i = 0; i < 12; i++) {
            int set = i == 3 ? 1 << gone : i == 4 ? ALL : random.nextInt(ALL + 1);
            int above = i == 0 ? -1 : random.nextInt(i);
            x.bag(set, above);
            due.bag(set & ~(1 << gone), above);
        }
        going.from(x);
        bagsAre(what, x, due, 12);
        Due.is("23: what becomes empty stays, " + what, 0, () -> x.bagAt(3));
        Due.fails("18: " + what, ARGUMENT, () -> x.bag(1 << gone, 0));
        Due.is("19: " + what, 12, () -> x.clearBags());
        Bramblehall y = made(seed);
        y.decompose();
        going.from(y);
        Bramblehall other = made(seed);
        other.decompose();
        for (int i = 0; i < 6; i++) {
            int bag = i;
            Due.is("23: decomposed, " + i + ", " + what, other.bagAt(i) & ~(1 << gone), () -> y.bagAt(bag));
            Due.is("24: decomposed, " + i + ", " + what, other.above(i), () -> y.above(bag));
        }
        Due.is("19: decomposed, " + what, 6, () -> y.clearBags());
    }

    private static void bagsAre(String what, Bramblehall x, Bramblehall due, int count) {
        for (int i = 0; i < count; i++) {
            int bag = i;
            Due.is("23: " + i + ", " + what, due.bagAt(i), () -> x.bagAt(bag));
            Due.is("24: " + i + ", " + what, due.above(i), () -> x.above(bag));
        }
        Due.fails("23: no more, " + what, INDEX, () -> x.bagAt(count));
        Due.is("21: " + what, due.check(), () -> x.check());
        Due.is("22: " + what, due.bagWidth(), () -> x.bagWidth());
        Due.say("25: " + what, Due.answer(() -> due.nice()), Due.answer(() -> x.nice()));
    }

    // ---- it goes from all hyperedges; those that become empty stay, and count

    private static void hyperedges(String what, int seed, int gone, Going going) {
        Random random = new Random(300 + seed);
        Bramblehall x = made(seed);
        Bramblehall due = after(seed, going);
        for (int i = 0; i < 5; i++) {
            int set = i == 2 ? 1 << gone : 1 + random.nextInt(ALL);
            x.hyperedge(set);
            if ((set & ~(1 << gone)) != 0) {
                due.hyperedge(set & ~(1 << gone));
            }
        }
        going.from(x);
        Due.is("51: " + what, due.isAcyclic(), () -> x.isAcyclic());
        for (int set = 0; set <= ALL; set++) {
            if ((set & 1 << gone) == 0) {
                x.clearBags();
                due.clearBags();
                x.bag(set, -1);
                due.bag(set, -1);
                Due.say("52: " + set + ", " + what, Due.answer(() -> due.cover()), Due.answer(() -> x.cover()));
            }
        }
        Due.fails("49: " + what, ARGUMENT, () -> x.hyperedge(1 << gone));
        Due.is("50: " + what, 5, () -> x.clearHyperedges());
    }

    // ---- the family is emptied, whether the one that goes is in it or not

    private static void family(String what, int seed, int gone, Going going) {
        Bramblehall x = made(seed);
        int without = ALL & ~(1 << gone);
        x.put(without);
        x.put(without & -without);
        going.from(x);
        Due.is("32: " + what, 0, () -> x.familyOrder());
        Due.is("31: " + what, true, () -> x.isBramble());
        Due.is("29: it may come again, " + what, 1, () -> x.put(without));
        Due.fails("29: not with the one that is gone, " + what, ARGUMENT, () -> x.put(ALL));
        Due.is("30: " + what, 1, () -> x.clearFamily());
        Bramblehall y = made(seed);
        y.takeHaven();
        going.from(y);
        Due.is("30: haven's family, " + what, 0, () -> y.clearFamily());
    }

    // ---- each vertex is alone again

    private static void parts(String what, int seed, int gone, Going going) {
        Bramblehall x = made(seed);
        for (int v = 1; v < 6; v++) {
            x.join(0, v);
        }
        going.from(x);
        Due.is("55: " + what, 0, () -> x.red());
        Due.is("54: " + what, 5, () -> x.split());
        Bramblehall y = made(seed);
        int first = gone == 0 ? 1 : 0;
        int second = gone == 5 ? 4 : 5;
        y.join(first, second);
        going.from(y);
        Due.is("53: they are in one part no more, " + what, 4, () -> y.join(first, second));
        Due.fails("53: now they are, " + what, UNSUPPORTED, () -> y.join(second, first));
        Due.fails("53: " + what, INDEX, () -> y.join(gone, second));
    }

    // ---- clauses stay

    private static void clauses(String what, int seed, int gone, Going going) {
        for (char kind : "icdvke".toCharArray()) {
            Bramblehall x = made(seed);
            x.clause(kind, true);
            going.from(x);
            Bramblehall due = after(seed, going);
            due.clause(kind, true);
            Due.is("39: " + kind + ", " + what, due.sets(), () -> x.sets());
            Due.is("40: " + kind + ", " + what, due.bestSet(), () -> x.bestSet());
            Due.is("38: " + kind + ", " + what, true, () -> x.clause(kind, false));
        }
        Bramblehall none = after(seed, going);
        Due.is("39: no clause, " + what, 32, () -> none.sets());
        Due.is("40: the one that is gone is in no set, " + what, 0, () -> none.bestSet() & 1 << gone);
    }

    // ---- numbers, weights and the edges among the others stay

    private static void graph(String what, int seed, int gone, Going going) {
        Bramblehall old = made(seed);
        Bramblehall x = after(seed, going);
        Due.is("6: " + what, 5, () -> x.size());
        int sum = 0;
        for (int v = 0; v < 6; v++) {
            int vertex = v;
            if (v == gone) {
                Due.fails("8: " + v + ", " + what, INDEX, () -> x.neighbours(vertex));
                Due.fails("10: " + v + ", " + what, INDEX, () -> x.weight(vertex));
                Due.fails("4: again " + v + ", " + what, INDEX, () -> x.remove(vertex));
            } else {
                int now = x.neighbours(v);
                int then = old.neighbours(v) & ~(1 << gone);
                Due.is("8: no edge goes, " + v + ", " + what, then, () -> now & then);
                Due.is("8: none to it, " + v + ", " + what, 0, () -> now & (1 << gone | 1 << vertex));
                sum += x.weight(v);
            }
        }
        int weights = sum;
        boolean contracted = what.startsWith("contracted");
        Due.is("10: all, " + what, contracted ? 115 : 115 - 10 - gone * gone, () -> weights);
        Due.is("2: the next number, " + what, 6, () -> x.vertex(1));
    }

    private static void loneOneGoes() {
        Bramblehall x = Due.path(3);
        x.vertex(1);
        x.put(7);
        x.join(0, 2);
        Due.is("4: without edges", 0, () -> x.remove(3));
        Due.is("30: even so", 0, () -> x.clearFamily());
        Due.is("54: even so", 3, () -> x.split());
        x.vertex(1);
        x.put(7);
        x.join(0, 2);
        Due.is("5: without edges", 1, () -> x.contract(4, 0));
        Due.is("30: contracted, even so", 0, () -> x.clearFamily());
        Due.is("54: contracted, even so", 3, () -> x.split());
    }

    private static void contracting() {
        for (int seed = 0; seed < 12; seed++) {
            for (int i = 0; i < 6; i++) {
                for (int j = 0; j < 6; j++) {
                    int v = i;
                    int into = j;
                    if (v != into) {
                        contracts(seed, v, into);
                    }
                }
            }
        }
    }

    private static void contracts(int seed, int v, int into) {
        String what = v + " into " + into + ", graph " + seed;
        Bramblehall old = made(seed);
        Bramblehall x = made(seed);
        int due = (old.neighbours(v) | old.neighbours(into)) & ~(1 << v | 1 << into);
        Due.is("5: " + what, Integer.bitCount(due), () -> x.contract(v, into));
        Due.is("8: " + what, due, () -> x.neighbours(into));
        Due.is("10: " + what, old.weight(v) + old.weight(into), () -> x.weight(into));
        for (int w = 0; w < 6; w++) {
            int other = w;
            if (w != v && w != into) {
                int others = old.neighbours(w) & ~(1 << v | 1 << into) | (due >> w & 1) << into;
                Due.is("8: " + w + " beside " + what, others, () -> x.neighbours(other));
                Due.is("10: " + w + " beside " + what, old.weight(w), () -> x.weight(other));
            }
        }
    }

    /** The one that stays does not take the place of the one that goes in bags, hyperedges or the order. */
    private static void nothingGoesInPlace() {
        Bramblehall x = Due.path(4);
        x.bag(2, -1);
        x.bag(6, 0);
        x.hyperedge(2);
        x.place(1);
        x.contract(1, 2);
        Due.is("23: not in the first bag", 0, () -> x.bagAt(0));
        Due.is("23: once in the second", 4, () -> x.bagAt(1));
        Due.fails("52: nor in the hyperedge", NONE, () -> x.cover());
        Due.is("14: nor in the order", 0, () -> x.clearOrder());
    }

    private static Bramblehall full() {
        Bramblehall x = Due.path(4);
        x.place(3);
        x.place(1);
        x.bag(7, -1);
        x.bag(12, 0);
        x.hyperedge(7);
        x.hyperedge(14);
        x.put(3);
        x.put(6);
        x.join(0, 3);
        x.clause('k', true);
        return x;
    }

    /** All that has been told stays as it was; the parts are told apart. */
    private static void restStays(String what, Bramblehall x) {
        Due.is("23: first, " + what, 7, () -> x.bagAt(0));
        Due.is("23: second, " + what, 12, () -> x.bagAt(1));
        Due.is("24: second, " + what, 0, () -> x.above(1));
        Due.is("52: " + what, 1, () -> x.cover());
        Due.fails("29: first, " + what, UNSUPPORTED, () -> x.put(3));
        Due.fails("29: second, " + what, UNSUPPORTED, () -> x.put(6));
        Due.is("30: " + what, 2, () -> x.clearFamily());
        Due.fails("13: first, " + what, UNSUPPORTED, () -> x.place(3));
        Due.fails("13: second, " + what, UNSUPPORTED, () -> x.place(1));
        Due.is("14: " + what, 2, () -> x.clearOrder());
        Due.is("50: " + what, 2, () -> x.clearHyperedges());
        Due.is("19: " + what, 2, () -> x.clearBags());
        Due.is("38: " + what, true, () -> x.clause('k', true));
    }

    private static void vertexComes() {
        Bramblehall x = full();
        Due.is("2: a new one", 4, () -> x.vertex(5));
        Due.fails("53: those that are joined stay so", UNSUPPORTED, () -> x.join(0, 3));
        Due.is("54: the new one is alone", 4, () -> x.split());
        Due.is("21: it is in no bag", 'v', () -> x.check());
        restStays("a vertex comes", x);
    }

    private static void edgeComesOrGoes() {
        Bramblehall comes = full();
        Due.is("3: comes", false, () -> comes.edge(0, 3, true));
        Due.is("54: comes", 4, () -> comes.split());
        restStays("an edge comes", comes);
        Bramblehall goes = full();
        Due.is("3: goes", true, () -> goes.edge(2, 3, false));
        Due.is("54: goes", 4, () -> goes.split());
        restStays("an edge goes", goes);
        Bramblehall there = full();
        Due.is("3: there", true, () -> there.edge(3, 2, true));
        Due.is("55: there", 2, () -> there.red());
        Due.is("54: there", 3, () -> there.split());
        restStays("an edge that was there", there);
        Bramblehall not = full();
        Due.is("3: not there", false, () -> not.edge(0, 2, false));
        Due.is("55: not there", 2, () -> not.red());
        Due.is("54: not there", 3, () -> not.split());
        restStays("an edge that was not there", not);
        Bramblehall within = full();
        Due.is("3: within a part", false, () -> within.edge(0, 3, false));
        Due.is("54: within a part", 3, () -> within.split());
        restStays("an edge that was not there, within a part", within);
    }

    /** Calls that only ask leave all that has been told. */
    private static void answersChangeNothing() {
        Bramblehall x = full();
        x.width('t');
        x.width('d');
        x.orderAt('c', 0);
        x.lower();
        x.upper();
        x.searchers();
        x.win(1);
        x.haven(1, 1);
        x.hasMinor('b');
        x.isIn('o');
        x.apex('f');
        x.colours();
        x.rings();
        x.longest();
        x.link(9);
        x.kernel(2);
        x.kernelLeft(2);
        x.hasCover(1);
        x.isAcyclic();
        x.twinWidth();
        x.isTrue();
        x.nice();
        Due.is("7: all edges", 3, () -> x.edges());
        Due.is("6: all vertices", 4, () -> x.size());
        Due.is("55: red", 2, () -> x.red());
        Due.is("54: parts", 3, () -> x.split());
        restStays("only asked", x);
    }
}
