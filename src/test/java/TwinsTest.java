/** Promises 49 to 59: hyperedges, twins, figures. */
public final class TwinsTest {
    private static final Class<?> INDEX = IndexOutOfBoundsException.class;
    private static final Class<?> ARGUMENT = IllegalArgumentException.class;
    private static final Class<?> STATE = IllegalStateException.class;
    private static final Class<?> NONE = java.util.NoSuchElementException.class;
    private static final Class<?> UNSUPPORTED = UnsupportedOperationException.class;
    private static final Class<?> ARITHMETIC = ArithmeticException.class;

    public static void main(String[] args) {
        hyperedge();
        isAcyclic();
        cover();
        join();
        split();
        red();
        twinWidth();
        figures();
        isTrue();
        Due.end();
    }

    private static void hyperedge() {
        Bramblehall x = Due.hall(4);
        Due.is("49: one", 1, () -> x.hyperedge(3));
        Due.is("49: the same again", 2, () -> x.hyperedge(3));
        Due.fails("49: empty", ARGUMENT, () -> x.hyperedge(0));
        Due.fails("49: another vertex", ARGUMENT, () -> x.hyperedge(17));
        Due.fails("49: below 0", ARGUMENT, () -> x.hyperedge(-1));
        for (int i = 3; i <= 10; i++) {
            int count = i;
            Due.is("49: of ten", count, () -> x.hyperedge(15));
        }
        Due.fails("49: an eleventh", STATE, () -> x.hyperedge(1));
        Due.fails("49: empty, looked at first", ARGUMENT, () -> x.hyperedge(0));
        Due.is("50: ten", 10, () -> x.clearHyperedges());
        Due.is("50: none", 0, () -> x.clearHyperedges());
        x.hyperedge(2);
        x.hyperedge(3);
        x.remove(1);
        Due.fails("49: gone", ARGUMENT, () -> x.hyperedge(2));
        x.bag(1, -1);
        Due.is("50: 0 is in one still", 1, () -> x.cover());
        Due.is("50: what becomes empty stays", 2, () -> x.clearHyperedges());
        x.hyperedge(4);
        x.contract(2, 3);
        x.bag(8, 0);
        Due.fails("50: one that is contracted goes from them", NONE, () -> x.cover());
        Due.is("50: an empty one stays", 1, () -> x.clearHyperedges());
    }

    private static Bramblehall with(int n, int... hyperedges) {
        Bramblehall x = Due.hall(n);
        for (int h : hyperedges) {
            x.hyperedge(h);
        }
        return x;
    }

    private static void isAcyclic() {
        Due.is("51: none", true, () -> new Bramblehall().isAcyclic());
        Due.is("51: one", true, () -> with(5, 31).isAcyclic());
        Due.is("51: the same twice", true, () -> with(5, 31, 31).isAcyclic());
        Due.is("51: two", true, () -> with(4, 7, 14).isAcyclic());
        Due.is("51: three in a ring", false, () -> with(3, 3, 6, 5).isAcyclic());
        Due.is("51: three within a greater one", true, () -> with(3, 3, 6, 5, 7).isAcyclic());
        Due.is("51: the greater one first", true, () -> with(3, 7, 3, 6, 5).isAcyclic());
        Due.is("51: three around one", true, () -> with(6, 7, 11, 19, 35, 3).isAcyclic());
        Due.is("51: four in a ring", false, () -> with(4, 3, 6, 12, 9).isAcyclic());
        Due.is("51: a triangle with ears", false, () -> with(6, 11, 22, 37).isAcyclic());
        Due.is("51: a chain", true, () -> with(10, 3, 6, 12, 24, 48, 96, 192, 384, 768).isAcyclic());
        Due.is("51: a ring of ten", false, () -> with(10, 3, 6, 12, 24, 48, 96, 192, 384, 768, 513).isAcyclic());
        Due.is("51: a ring beside a chain", false, () -> with(6, 3, 6, 5, 24, 48).isAcyclic());
        Bramblehall x = with(3, 3, 6, 5);
        x.remove(1);
        Due.is("51: opened", true, () -> x.isAcyclic());
        Due.is("51: and all three are there", 3, () -> x.clearHyperedges());
    }

    private static void cover() {
        Bramblehall x = Due.hall(5);
        Due.is("52: no bags", 0, () -> x.cover());
        x.bag(0, -1);
        Due.is("52: an empty one", 0, () -> x.cover());
        x.bag(19, 0);
        Due.fails("52: in none", NONE, () -> x.cover());
        x.hyperedge(3);
        Due.fails("52: 4 is in none", NONE, () -> x.cover());
        x.hyperedge(16);
        Due.is("52: two", 2, () -> x.cover());
        x.hyperedge(1);
        x.hyperedge(2);
        Due.is("52: two still", 2, () -> x.cover());
        x.hyperedge(18);
        x.bag(3, 1);
        Due.is("52: the greatest of all bags", 2, () -> x.cover());
        x.hyperedge(31);
        Due.is("52: one", 1, () -> x.cover());
        Bramblehall ten = Due.hall(10);
        ten.bag(1023, -1);
        for (int v = 0; v < 10; v++) {
            ten.hyperedge(1 << v);
        }
        Due.is("52: ten", 10, () -> ten.cover());
    }

    private static void join() {
        Bramblehall x = Due.hall(4);
        Due.is("53: three", 3, () -> x.join(0, 2));
        Due.fails("53: in one part", UNSUPPORTED, () -> x.join(2, 0));
        Due.fails("53: itself", UNSUPPORTED, () -> x.join(1, 1));
        Due.fails("53: none such", INDEX, () -> x.join(4, 0));
        Due.fails("53: no such other one", INDEX, () -> x.join(0, -1));
        Due.fails("53: none such, itself", INDEX, () -> x.join(9, 9));
        Due.is("53: two", 2, () -> x.join(1, 3));
        Due.fails("53: by way of others", UNSUPPORTED, () -> x.join(3, 1));
        Due.is("53: parts are joined, not vertices", 1, () -> x.join(3, 2));
        Due.fails("53: all in one", UNSUPPORTED, () -> x.join(0, 1));
        Due.is("2: a new one is alone", 4, () -> x.vertex(1));
        Due.is("54: two parts", 2, () -> x.split());
        x.remove(1);
        Due.fails("53: gone", INDEX, () -> x.join(0, 1));
    }

    private static void split() {
        Due.is("54: nothing", 0, () -> new Bramblehall().split());
        Bramblehall x = Due.hall(5, 0, 1);
        Due.is("54: five", 5, () -> x.split());
        x.join(0, 1);
        x.join(1, 2);
        Due.is("54: three", 3, () -> x.split());
        Due.is("54: five again", 5, () -> x.split());
        x.join(0, 1);
        x.edge(0, 1, true);
        x.edge(3, 4, false);
        Due.is("3: an edge that was there leaves them", 4, () -> x.split());
        x.join(0, 1);
        x.edge(2, 3, true);
        Due.is("3: an edge that comes", 5, () -> x.split());
        x.join(0, 1);
        x.edge(2, 3, false);
        Due.is("3: an edge that goes", 5, () -> x.split());
        x.join(0, 1);
        x.remove(4);
        Due.is("4: a vertex that goes", 4, () -> x.split());
        x.join(0, 1);
        x.contract(3, 2);
        Due.is("5: one that is contracted", 3, () -> x.split());
    }

    private static void red() {
        Due.is("55: nothing", 0, () -> new Bramblehall().red());
        Bramblehall x = Due.path(5);
        Due.is("55: all alone", 0, () -> x.red());
        x.join(0, 4);
        Due.is("55: to 1 and 3", 2, () -> x.red());
        x.join(1, 3);
        Due.is("55: the ends to those beside them", 1, () -> x.red());
        x.join(2, 0);
        Due.is("55: two parts", 1, () -> x.red());
        x.join(2, 1);
        Due.is("55: one part", 0, () -> x.red());
        Bramblehall star = Due.twoSides(1, 5);
        star.join(1, 2);
        star.join(1, 3);
        Due.is("55: twins", 0, () -> star.red());
        star.join(0, 4);
        Due.is("55: the hub and a leaf to all others", 2, () -> star.red());
        Bramblehall ring = Due.ring(6);
        ring.join(0, 3);
        Due.is("55: to four", 4, () -> ring.red());
        ring.join(1, 4);
        Due.is("55: to three", 3, () -> ring.red());
        ring.join(2, 5);
        Due.is("55: two and two", 2, () -> ring.red());
        Bramblehall first = Due.path(3);
        first.join(0, 1);
        Due.is("55: the part of 0", 1, () -> first.red());
    }

    private static void twinWidth() {
        Due.is("56: nothing", 0, () -> new Bramblehall().twinWidth());
        Due.is("56: a vertex", 0, () -> Due.hall(1).twinWidth());
        Due.is("56: lone ones", 0, () -> Due.hall(7).twinWidth());
        Due.is("56: a clique", 0, () -> Due.clique(7).twinWidth());
        Due.is("56: three by four", 0, () -> Due.twoSides(3, 4).twinWidth());
        Due.is("56: a path of 3", 0, () -> Due.path(3).twinWidth());
        Due.is("56: a path of 4", 1, () -> Due.path(4).twinWidth());
        Due.is("56: a path of 7", 1, () -> Due.path(7).twinWidth());
        Due.is("56: a ring of 4", 0, () -> Due.ring(4).twinWidth());
        Due.is("56: a ring of 5", 2, () -> Due.ring(5).twinWidth());
        Due.is("56: a ring of 7", 2, () -> Due.ring(7).twinWidth());
        Due.is("56: a spider", 2, () -> Due.hall(7, 0, 1, 1, 2, 0, 3, 3, 4, 0, 5, 5, 6).twinWidth());
        Due.fails("56: eight", UNSUPPORTED, () -> Due.hall(8).twinWidth());
        Bramblehall x = Due.path(8);
        x.remove(0);
        Due.is("56: seven are left", 1, () -> x.twinWidth());
        x.join(1, 7);
        x.join(2, 5);
        Due.is("56: what is joined does not count", 1, () -> x.twinWidth());
        Due.is("54: and stays", 5, () -> x.split());
    }

    private static void figures() {
        Due.fails("57: nothing", ARITHMETIC, () -> new Bramblehall().density());
        Due.fails("57: a vertex", ARITHMETIC, () -> Due.hall(1).density());
        Due.is("57: two", 0.0f, () -> Due.hall(2).density());
        Due.is("57: an edge", 1.0f, () -> Due.hall(2, 0, 1).density());
        Due.is("57: a third", 1.0f / 3.0f, () -> Due.hall(3, 0, 1).density());
        Due.is("57: a path of ten", 0.2f, () -> Due.path(10).density());
        Due.fails("58: nothing", ARITHMETIC, () -> new Bramblehall().meanDegree());
        Due.is("58: a vertex", 0.0, () -> Due.hall(1).meanDegree());
        Due.is("58: a path of 3", 4.0 / 3.0, () -> Due.path(3).meanDegree());
        Due.is("58: a clique", 9.0, () -> Due.clique(10).meanDegree());
        Bramblehall x = Due.path(3);
        x.remove(0);
        Due.is("57: without one", 1.0f, () -> x.density());
        Due.is("58: without one", 1.0, () -> x.meanDegree());
        x.remove(1);
        x.remove(2);
        Due.fails("58: all gone", ARITHMETIC, () -> x.meanDegree());
        Due.fails("57: all gone", ARITHMETIC, () -> x.density());
    }

    private static void isTrue() {
        Due.is("59: nothing", true, () -> new Bramblehall().isTrue());
        Due.is("59: a vertex", true, () -> Due.hall(1).isTrue());
        Due.is("59: a clique of 6", true, () -> Due.clique(6).isTrue());
        Due.is("59: Petersen's graph", true, () -> Due.petersen().isTrue());
        Bramblehall x = Due.grid(2, 3);
        x.bag(63, -1);
        x.put(7);
        x.place(3);
        Due.is("59: a grid", true, () -> x.isTrue());
        Due.is("59: the bags stay", 5, () -> x.bagWidth());
        Due.is("59: the family stays", 1, () -> x.clearFamily());
        Due.is("59: the order stays", 1, () -> x.clearOrder());
        Due.is("59: one bag", 1, () -> x.clearBags());
    }
}
