/** Promises 26 to 33: searchers and brambles. */
public final class HuntTest {
    private static final Class<?> ARGUMENT = IllegalArgumentException.class;
    private static final Class<?> STATE = IllegalStateException.class;
    private static final Class<?> NONE = java.util.NoSuchElementException.class;
    private static final Class<?> UNSUPPORTED = UnsupportedOperationException.class;

    public static void main(String[] args) {
        win();
        haven();
        put();
        fullFamily();
        isBramble();
        familyOrder();
        takeHaven();
        vertexGoes();
        Due.end();
    }

    private static void fewest(String name, Bramblehall x, int due) {
        Due.is("27: " + name, due, () -> x.searchers());
        for (int k = 0; k <= 10; k++) {
            int searchers = k;
            Due.is("26: " + k + " on " + name, k >= due, () -> x.win(searchers));
        }
    }

    private static void win() {
        fewest("nothing", new Bramblehall(), 0);
        fewest("lone ones", Due.hall(4), 1);
        fewest("a path", Due.path(10), 2);
        fewest("a ring", Due.ring(10), 3);
        fewest("a clique", Due.clique(10), 10);
        fewest("a grid", Due.grid(3, 3), 4);
        fewest("Petersen's graph", Due.petersen(), 5);
        fewest("three by three", Due.twoSides(3, 3), 4);
        fewest("an edge and a triangle", Due.hall(5, 0, 1, 2, 3, 3, 4, 2, 4), 3);
        for (int k : new int[] {-1, 11, Integer.MAX_VALUE, Integer.MIN_VALUE}) {
            Due.fails("26: " + k, ARGUMENT, () -> Due.hall(2).win(k));
        }
    }

    private static void haven() {
        Bramblehall x = Due.ring(6);
        Due.is("28: all", 63, () -> x.haven(2, 0));
        Due.is("28: without one", 61, () -> x.haven(2, 2));
        Due.is("28: the one with the lowest vertex", 1, () -> x.haven(2, 34));
        Due.is("28: of two, that of 0", 33, () -> x.haven(2, 18));
        Due.is("28: one searcher", 63, () -> x.haven(1, 0));
        Due.is("28: no searcher", 63, () -> x.haven(0, 0));
        Due.fails("28: three win", NONE, () -> x.haven(3, 0));
        Due.fails("28: more than the searchers", ARGUMENT, () -> x.haven(2, 7));
        Due.fails("28: more, though they win", ARGUMENT, () -> x.haven(3, 15));
        Due.fails("28: another vertex", ARGUMENT, () -> x.haven(2, 64));
        Due.fails("28: below 0", ARGUMENT, () -> x.haven(2, -1));
        Due.fails("28: the lowest number", ARGUMENT, () -> x.haven(2, 1 << 31));
        Due.fails("28: eleven", ARGUMENT, () -> x.haven(11, 0));
        Due.fails("28: fewer than none", ARGUMENT, () -> x.haven(-1, 0));
        Due.fails("28: nothing, and none", NONE, () -> new Bramblehall().haven(0, 0));
        x.remove(5);
        Due.fails("28: gone", ARGUMENT, () -> x.haven(1, 32));
        Due.fails("28: on a path two win", NONE, () -> x.haven(2, 0));
        Due.is("28: one does not, the part of 0", 1, () -> x.haven(1, 2));
        Bramblehall tail = Due.hall(5, 0, 1, 2, 3, 3, 4, 2, 4);
        Due.is("28: 0 and 1 are lost to two", 28, () -> tail.haven(2, 0));
        Due.is("28: not to one", 3, () -> tail.haven(1, 0));
        Due.is("28: one beside another is not lost to one", 1, () -> tail.haven(1, 2));
        Due.is("28: but to two", 24, () -> tail.haven(2, 6));
    }

    private static void put() {
        Bramblehall x = Due.hall(3);
        Due.is("29: one", 1, () -> x.put(5));
        Due.is("29: two", 2, () -> x.put(2));
        Due.fails("29: there", UNSUPPORTED, () -> x.put(5));
        Due.fails("29: empty", ARGUMENT, () -> x.put(0));
        Due.fails("29: another vertex", ARGUMENT, () -> x.put(9));
        Due.fails("29: below 0", ARGUMENT, () -> x.put(-8));
        Due.is("30: two", 2, () -> x.clearFamily());
        Due.is("30: none", 0, () -> x.clearFamily());
        Due.is("29: it may come again", 1, () -> x.put(5));
        x.remove(1);
        Due.fails("29: gone", ARGUMENT, () -> x.put(2));
        Due.is("30: emptied as a vertex went", 0, () -> x.clearFamily());
    }

    private static void fullFamily() {
        Bramblehall x = Due.hall(6);
        for (int i = 1; i <= 60; i++) {
            int set = i;
            Due.is("29: of sixty", set, () -> x.put(set));
        }
        Due.fails("29: a sixty-first", STATE, () -> x.put(61));
        Due.fails("29: one that is there", UNSUPPORTED, () -> x.put(60));
        Due.fails("29: empty, looked at first", ARGUMENT, () -> x.put(0));
        Due.fails("29: another vertex, looked at first", ARGUMENT, () -> x.put(64));
        Due.is("32: lone ones among them", 6, () -> x.familyOrder());
        Due.is("30: sixty", 60, () -> x.clearFamily());
    }

    private static void isBramble() {
        Bramblehall x = Due.path(5);
        Due.is("31: empty", true, () -> x.isBramble());
        x.put(1);
        Due.is("31: one", true, () -> x.isBramble());
        x.put(2);
        Due.is("31: an edge joins them", true, () -> x.isBramble());
        x.put(3);
        Due.is("31: a vertex in common", true, () -> x.isBramble());
        x.put(8);
        Due.is("31: 1 and 8 do not touch", false, () -> x.isBramble());
        x.clearFamily();
        x.put(5);
        Due.is("31: it does not hang together", false, () -> x.isBramble());
        x.edge(0, 2, true);
        Due.is("31: now it does", true, () -> x.isBramble());
        x.put(18);
        Due.is("31: the second does not", false, () -> x.isBramble());
        Due.is("30: two sets", 2, () -> x.clearFamily());
        x.put(1);
        x.put(4);
        x.put(24);
        Due.is("31: the first and the last do not touch", false, () -> x.isBramble());
        x.clearFamily();
        Due.is("31: emptied", true, () -> x.isBramble());
    }

    private static void familyOrder() {
        Bramblehall x = Due.hall(5);
        Due.is("32: empty", 0, () -> x.familyOrder());
        x.put(3);
        Due.is("32: one", 1, () -> x.familyOrder());
        x.put(6);
        Due.is("32: one meets both", 1, () -> x.familyOrder());
        x.put(5);
        Due.is("32: three pairs of three", 2, () -> x.familyOrder());
        x.put(24);
        Due.is("32: and one beside", 3, () -> x.familyOrder());
        Due.is("32: no vertices", 0, () -> new Bramblehall().familyOrder());
    }

    private static void takeHaven() {
        Due.fails("33: no vertices", NONE, () -> new Bramblehall().takeHaven());
        Bramblehall lone = Due.hall(3);
        lone.put(7);
        Due.is("33: lone ones", 1, () -> lone.takeHaven());
        Due.is("33: the first alone", 1, () -> lone.clearFamily());
        Bramblehall path = Due.path(3);
        path.takeHaven();
        // {} -> all, {0} -> 1 and 2, {1} -> 0, {2} -> 0 and 1
        Due.is("33: a path", 4, () -> path.clearFamily());
        path.takeHaven();
        Due.fails("33: all", UNSUPPORTED, () -> path.put(7));
        Due.fails("33: 1 and 2", UNSUPPORTED, () -> path.put(6));
        Due.fails("33: 0", UNSUPPORTED, () -> path.put(1));
        Due.fails("33: 0 and 1", UNSUPPORTED, () -> path.put(3));
        Due.is("33: it has order 2", 2, () -> path.familyOrder());
        Due.is("33: 0 beside 1 and 2", true, () -> path.isBramble());
        Bramblehall two = Due.hall(4, 0, 1, 2, 3);
        Due.is("33: two edges", 2, () -> two.takeHaven());
        // {} -> 0 and 1, {0} -> 1, {1} -> 0, {2} and {3} -> 0 and 1
        Due.is("33: three sets", 3, () -> two.clearFamily());
        Bramblehall clique = Due.clique(10);
        Due.is("33: the first sixty all have 6 to 9", 1, () -> clique.takeHaven());
        Due.fails("33: without 0 to 5 but 2", UNSUPPORTED, () -> clique.put(1023 - 59));
        Due.fails("33: and no more", STATE, () -> clique.put(1023 - 60));
        Due.is("33: sixty", 60, () -> clique.clearFamily());
    }

    private static void vertexGoes() {
        Bramblehall x = Due.ring(5);
        x.put(3);
        x.edge(0, 1, false);
        Due.is("30: an edge leaves the family", 1, () -> x.clearFamily());
        x.put(3);
        x.vertex(1);
        Due.is("30: so does a new vertex", 1, () -> x.clearFamily());
        x.put(3);
        x.contract(4, 3);
        Due.is("30: one contracted empties it", 0, () -> x.clearFamily());
        x.put(3);
        x.remove(2);
        Due.is("30: one removed empties it", 0, () -> x.clearFamily());
    }
}
