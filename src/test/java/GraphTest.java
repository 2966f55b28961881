/** Promises 1 to 10: the graph. */
public final class GraphTest {
    private static final Class<?> INDEX = IndexOutOfBoundsException.class;
    private static final Class<?> ARGUMENT = IllegalArgumentException.class;
    private static final Class<?> STATE = IllegalStateException.class;

    public static void main(String[] args) {
        newObject();
        vertex();
        edge();
        remove();
        contract();
        figures();
        wrongVertices();
        Due.end();
    }

    private static void newObject() {
        Bramblehall x = new Bramblehall();
        Due.is("1: size of a new hall", 0, () -> x.size());
        Due.is("1: edges of a new hall", 0, () -> x.edges());
        Due.is("1: parts of a new hall", 0, () -> x.parts());
        Due.fails("1: there is no vertex 0", INDEX, () -> x.weight(0));
        Due.is("1: no bags", 0, () -> x.clearBags());
        Due.is("1: no family", 0, () -> x.clearFamily());
        Due.is("1: no hyperedges", 0, () -> x.clearHyperedges());
        Due.is("1: no order", 0, () -> x.clearOrder());
        Due.is("1: no parts", 0, () -> x.split());
        Due.is("1: no clause", false, () -> x.clause('i', false));
    }

    private static void vertex() {
        Bramblehall x = new Bramblehall();
        Due.fails("2: weight -1", ARGUMENT, () -> x.vertex(-1));
        Due.fails("2: weight 100", ARGUMENT, () -> x.vertex(100));
        Due.fails("2: least weight of all", ARGUMENT, () -> x.vertex(Integer.MIN_VALUE));
        Due.is("2: nothing has changed", 0, () -> x.size());
        for (int i = 0; i < 10; i++) {
            int v = i;
            Due.is("2: number", v, () -> x.vertex(v == 0 ? 0 : 90 + v));
        }
        Due.is("2: weight 0", 0, () -> x.weight(0));
        Due.is("2: weight 99", 99, () -> x.weight(9));
        Due.fails("2: an eleventh", STATE, () -> x.vertex(1));
        Due.fails("2: the weight is looked at first", ARGUMENT, () -> x.vertex(100));
        Due.is("2: still ten", 10, () -> x.size());
        Due.is("2: remove one", 0, () -> x.remove(3));
        Due.fails("2: one that is gone does not come back", STATE, () -> x.vertex(1));
        Due.is("2: nine", 9, () -> x.size());
    }

    private static void edge() {
        Bramblehall x = Due.hall(3);
        Due.is("3: it was not there", false, () -> x.edge(0, 1, true));
        Due.is("3: it was there", true, () -> x.edge(1, 0, true));
        Due.is("3: one edge", 1, () -> x.edges());
        Due.is("3: seen from 0", 2, () -> x.neighbours(0));
        Due.is("3: seen from 1", 1, () -> x.neighbours(1));
        Due.is("3: taken away", true, () -> x.edge(0, 1, false));
        Due.is("3: taken away again", false, () -> x.edge(0, 1, false));
        Due.is("3: no edge", 0, () -> x.edges());
        Due.fails("3: both the same", ARGUMENT, () -> x.edge(2, 2, true));
        Due.fails("3: no such vertex, both the same", INDEX, () -> x.edge(3, 3, true));
        Due.fails("3: no such vertex", INDEX, () -> x.edge(3, 0, true));
        Due.fails("3: no such other vertex", INDEX, () -> x.edge(0, -1, true));
        x.remove(1);
        Due.fails("3: gone", INDEX, () -> x.edge(1, 0, true));
        Due.fails("3: the other one is gone", INDEX, () -> x.edge(0, 1, true));
        Due.fails("3: gone, and both the same", INDEX, () -> x.edge(1, 1, false));
        Due.is("3: nothing has changed", 0, () -> x.edges());
    }

    private static void remove() {
        Bramblehall x = Due.clique(4);
        Due.is("4: three edges", 3, () -> x.remove(1));
        Due.fails("4: gone for good", INDEX, () -> x.remove(1));
        Due.is("4: the others' edges stay", 3, () -> x.edges());
        Due.is("4: no neighbour of 0 any more", 12, () -> x.neighbours(0));
        Due.is("4: three vertices", 3, () -> x.size());
        Due.is("4: the next number", 4, () -> x.vertex(1));
        Due.is("4: without edges", 0, () -> x.remove(4));
        Due.fails("4: none such", INDEX, () -> x.remove(10));
        Due.fails("4: below 0", INDEX, () -> x.remove(-1));
    }

    private static void contract() {
        Bramblehall x = new Bramblehall();
        for (int i = 0; i < 5; i++) {
            x.vertex(60 + i);
        }
        x.edge(0, 1, true);
        x.edge(0, 2, true);
        x.edge(1, 2, true);
        x.edge(0, 3, true);
        Due.fails("5: both the same", ARGUMENT, () -> x.contract(0, 0));
        Due.fails("5: no such one", INDEX, () -> x.contract(5, 5));
        Due.fails("5: no such other one", INDEX, () -> x.contract(0, 5));
        Due.is("5: nothing has changed", 4, () -> x.edges());
        Due.is("5: beside each other", 2, () -> x.contract(0, 1));
        Due.is("5: its neighbours, not itself", 12, () -> x.neighbours(1));
        Due.is("5: the neighbour sees it", 2, () -> x.neighbours(3));
        Due.is("5: weights are added", 121, () -> x.weight(1));
        Due.fails("5: it is gone", INDEX, () -> x.weight(0));
        Due.is("5: not beside each other", 2, () -> x.contract(1, 4));
        Due.is("5: all go over", 12, () -> x.neighbours(4));
        Due.is("5: beyond 99", 185, () -> x.weight(4));
        Due.is("5: three left", 3, () -> x.size());
        Due.is("5: two edges", 2, () -> x.edges());
        Due.fails("5: gone, and both the same", INDEX, () -> x.contract(1, 1));
    }

    private static void figures() {
        Bramblehall x = Due.hall(6, 0, 1, 1, 2, 4, 5);
        Due.is("6: size", 6, () -> x.size());
        Due.is("7: edges", 3, () -> x.edges());
        Due.is("8: neighbours", 5, () -> x.neighbours(1));
        Due.is("8: none", 0, () -> x.neighbours(3));
        Due.is("9: parts", 3, () -> x.parts());
        x.remove(1);
        Due.is("6: size without 1", 5, () -> x.size());
        Due.is("7: edges without 1", 1, () -> x.edges());
        Due.is("9: parts without 1", 4, () -> x.parts());
        Due.is("9: a ring is one part", 1, () -> Due.ring(10).parts());
        Due.is("7: of ten", 45, () -> Due.clique(10).edges());
    }

    private static void wrongVertices() {
        Bramblehall x = Due.hall(2);
        x.remove(0);
        for (int v : new int[] {-1, 0, 2, 9, 10, 32, 33, Integer.MAX_VALUE, Integer.MIN_VALUE}) {
            Due.fails("8: neighbours of " + v, INDEX, () -> x.neighbours(v));
            Due.fails("10: weight of " + v, INDEX, () -> x.weight(v));
        }
        Due.is("10: weight", 1, () -> x.weight(1));
    }
}
