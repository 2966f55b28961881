/** Promises 18 to 25: decompositions. */
public final class BagsTest {
    private static final Class<?> INDEX = IndexOutOfBoundsException.class;
    private static final Class<?> ARGUMENT = IllegalArgumentException.class;
    private static final Class<?> STATE = IllegalStateException.class;
    private static final Class<?> NONE = java.util.NoSuchElementException.class;
    private static final Class<?> UNSUPPORTED = UnsupportedOperationException.class;

    public static void main(String[] args) {
        bag();
        fullTree();
        clearBags();
        decompose();
        check();
        bagWidth();
        bagAtAndAbove();
        nice();
        vertexGoes();
        Due.end();
    }

    private static void bag() {
        Bramblehall x = Due.hall(3);
        Due.fails("18: none above the first one", INDEX, () -> x.bag(1, 0));
        Due.fails("18: below -1", INDEX, () -> x.bag(1, -2));
        Due.fails("18: another vertex", ARGUMENT, () -> x.bag(8, -1));
        Due.fails("18: another vertex, looked at first", ARGUMENT, () -> x.bag(8, 5));
        Due.fails("18: below 0", ARGUMENT, () -> x.bag(-1, -1));
        Due.fails("18: far off", ARGUMENT, () -> x.bag(1 << 31, -1));
        Due.is("18: nothing has changed", 0, () -> x.clearBags());
        Due.is("18: the first", 0, () -> x.bag(7, -1));
        Due.fails("18: a second first", INDEX, () -> x.bag(7, -1));
        Due.is("18: an empty one", 1, () -> x.bag(0, 0));
        Due.is("18: the same again", 2, () -> x.bag(7, 1));
        Due.fails("18: itself", INDEX, () -> x.bag(7, 3));
        Due.fails("18: far off", INDEX, () -> x.bag(7, Integer.MAX_VALUE));
        x.remove(1);
        Due.fails("18: gone", ARGUMENT, () -> x.bag(2, 0));
        Due.is("18: three still", 3, () -> x.clearBags());
    }

    private static void fullTree() {
        Bramblehall x = Due.hall(1);
        for (int i = 0; i < 20; i++) {
            int number = i;
            Due.is("18: of twenty", number, () -> x.bag(1, number - 1));
        }
        Due.fails("18: a twenty-first", STATE, () -> x.bag(1, 0));
        Due.fails("18: no such bag, looked at first", INDEX, () -> x.bag(1, 20));
        Due.fails("18: a second first, looked at first", INDEX, () -> x.bag(1, -1));
        Due.fails("18: another vertex, first of all", ARGUMENT, () -> x.bag(2, 20));
        Due.is("18: twenty still", 20, () -> x.clearBags());
    }

    private static void clearBags() {
        Bramblehall x = Due.hall(1);
        x.bag(1, -1);
        x.bag(0, 0);
        Due.is("19: two", 2, () -> x.clearBags());
        Due.is("19: none", 0, () -> x.clearBags());
        Due.fails("19: they are gone", INDEX, () -> x.bagAt(0));
        Due.is("19: a first one again", 0, () -> x.bag(1, -1));
    }

    private static void treeIs(String name, Bramblehall x, int... contentAndAbove) {
        for (int i = 0; i < contentAndAbove.length; i += 2) {
            int bag = i / 2;
            Due.is("20: bag " + bag + " of " + name, contentAndAbove[i], () -> x.bagAt(bag));
            Due.is("20: above " + bag + " of " + name, contentAndAbove[i + 1], () -> x.above(bag));
        }
        Due.fails("20: no more bags of " + name, INDEX, () -> x.bagAt(contentAndAbove.length / 2));
    }

    private static void decompose() {
        Bramblehall star = Due.hall(4, 0, 1, 0, 2, 0, 3);
        star.bag(15, -1);
        Due.is("20: in place of the bags", 4, () -> star.decompose());
        // the order is 1, 2, 0, 3
        treeIs("a star", star, 8, -1, 9, 0, 5, 1, 3, 1);
        Due.is("20: a decomposition", '-', () -> star.check());
        Bramblehall lone = Due.hall(3);
        Due.is("20: three", 3, () -> lone.decompose());
        treeIs("lone ones", lone, 4, -1, 2, 0, 1, 1);
        Bramblehall two = Due.hall(5, 0, 1, 1, 2, 0, 2, 3, 4);
        two.decompose();
        // the order is 0, 1, 2, 3, 4
        treeIs("a triangle and an edge", two, 16, -1, 24, 0, 4, 1, 6, 2, 7, 3);
        Bramblehall none = new Bramblehall();
        none.bag(0, -1);
        Due.is("20: of nothing", 0, () -> none.decompose());
        Due.is("20: no bags", 0, () -> none.clearBags());
        Bramblehall ten = Due.petersen();
        Due.is("20: ten", 10, () -> ten.decompose());
        Due.is("20: of Petersen's graph", '-', () -> ten.check());
        Due.is("20: its width", 4, () -> ten.bagWidth());
    }

    private static void check() {
        Due.is("21: nothing", '-', () -> new Bramblehall().check());
        Bramblehall x = Due.hall(4, 0, 1, 1, 2, 2, 3);
        Due.is("21: no bags", 'v', () -> x.check());
        x.bag(3, -1);
        x.bag(0, 0);
        Due.is("21: 2 is in none", 'v', () -> x.check());
        x.bag(12, 1);
        Due.is("21: 1 and 2 are in none", 'e', () -> x.check());
        x.bag(6, 2);
        Due.is("21: 1 does not hang together", 'c', () -> x.check());
        x.edge(0, 3, true);
        Due.is("21: the edge comes first", 'e', () -> x.check());
        x.vertex(1);
        Due.is("21: the vertex comes first", 'v', () -> x.check());
        Bramblehall y = Due.hall(3, 0, 1, 1, 2);
        y.bag(3, -1);
        y.bag(6, 0);
        Due.is("21: it is one", '-', () -> y.check());
        y.bag(2, 1);
        y.bag(4, 1);
        y.bag(7, 0);
        Due.is("21: 2 parts at the first one", 'c', () -> y.check());
        Bramblehall lone = Due.hall(2);
        lone.bag(1, -1);
        lone.bag(2, 0);
        Due.is("21: bags need not meet", '-', () -> lone.check());
        lone.bag(1, 1);
        Due.is("21: but each vertex's bags", 'c', () -> lone.check());
    }

    private static void bagWidth() {
        Bramblehall x = Due.hall(4);
        Due.fails("22: no bags", NONE, () -> x.bagWidth());
        x.bag(0, -1);
        Due.is("22: an empty one", -1, () -> x.bagWidth());
        x.bag(5, 0);
        Due.is("22: two", 1, () -> x.bagWidth());
        x.bag(14, 0);
        x.bag(2, 0);
        Due.is("22: three, though it is no decomposition", 2, () -> x.bagWidth());
    }

    private static void bagAtAndAbove() {
        Bramblehall x = Due.hall(4);
        Due.fails("23: none", INDEX, () -> x.bagAt(0));
        Due.fails("24: none", INDEX, () -> x.above(0));
        x.bag(9, -1);
        x.bag(6, 0);
        x.bag(4, 1);
        x.bag(2, 0);
        Due.is("23: the first", 9, () -> x.bagAt(0));
        Due.is("23: the last", 2, () -> x.bagAt(3));
        Due.is("24: the first", -1, () -> x.above(0));
        Due.is("24: the third", 1, () -> x.above(2));
        Due.is("24: the last", 0, () -> x.above(3));
        for (int bag : new int[] {-1, 4, 20, Integer.MAX_VALUE, Integer.MIN_VALUE}) {
            Due.fails("23: " + bag, INDEX, () -> x.bagAt(bag));
            Due.fails("24: " + bag, INDEX, () -> x.above(bag));
        }
    }

    private static void nice() {
        Bramblehall x = Due.hall(3, 0, 1, 1, 2);
        Due.fails("25: no bags", NONE, () -> x.nice());
        x.bag(3, -1);
        Due.fails("25: no decomposition", UNSUPPORTED, () -> x.nice());
        x.bag(6, 0);
        // 1 and 2 more below, 2 between them, 2 of the first one
        Due.is("25: a path", 7, () -> x.nice());
        x.bag(2, 0);
        // 1 and 1 more for the new one, 1 between, and 1 for the two below the first one
        Due.is("25: two below", 11, () -> x.nice());
        x.bag(2, 0);
        Due.is("25: three below", 15, () -> x.nice());
        Bramblehall one = Due.hall(2, 0, 1);
        one.bag(3, -1);
        Due.is("25: one bag", 5, () -> one.nice());
        Bramblehall none = new Bramblehall();
        Due.fails("25: no vertices, no bags", NONE, () -> none.nice());
        none.bag(0, -1);
        Due.is("25: an empty one", 1, () -> none.nice());
        none.bag(0, 0);
        none.bag(0, 0);
        Due.is("25: three empty ones", 3, () -> none.nice());
    }

    private static void vertexGoes() {
        Bramblehall x = Due.hall(3, 0, 1, 1, 2);
        x.bag(3, -1);
        x.bag(2, 0);
        x.bag(6, 1);
        x.remove(1);
        Due.is("4: it goes from the first bag", 1, () -> x.bagAt(0));
        Due.is("4: what becomes empty stays", 0, () -> x.bagAt(1));
        Due.is("4: below it", 4, () -> x.bagAt(2));
        Due.is("4: a decomposition still", '-', () -> x.check());
        x.contract(2, 0);
        Due.is("5: it goes from the bags", 0, () -> x.bagAt(2));
        Due.is("5: and is not put in the other one's place", '-', () -> x.check());
        Due.is("5: three bags", 3, () -> x.clearBags());
    }
}
