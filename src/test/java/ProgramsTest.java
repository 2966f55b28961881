/** Promises 38 to 48: clauses, programs, kernels. */
public final class ProgramsTest {
    private static final Class<?> ARGUMENT = IllegalArgumentException.class;
    private static final Class<?> NONE = java.util.NoSuchElementException.class;

    public static void main(String[] args) {
        clause();
        sets();
        bestSet();
        colours();
        rings();
        longest();
        link();
        kernel();
        refusedKernel();
        hasCover();
        Due.end();
    }

    private static void clause() {
        Bramblehall x = Due.hall(2, 0, 1);
        for (char kind : "icdvke".toCharArray()) {
            Due.is("38: " + kind + " was not told", false, () -> x.clause(kind, true));
            Due.is("38: " + kind + " was told", true, () -> x.clause(kind, true));
            Due.is("38: " + kind + " is taken back", true, () -> x.clause(kind, false));
            Due.is("38: " + kind + " was taken back", false, () -> x.clause(kind, false));
        }
        for (char kind : new char[] {'x', 'I', 0, 't', 65535}) {
            Due.fails("38: " + (int) kind, ARGUMENT, () -> x.clause(kind, true));
        }
        Due.is("39: no clause is told", 4, () -> x.sets());
        x.clause('i', true);
        x.clause('c', true);
        x.remove(0);
        Due.is("38: clauses stay as a vertex goes", true, () -> x.clause('i', true));
    }

    /** How many sets keep the clause alone: by i, c, d, v, k, e. */
    private static void keep(String name, Bramblehall x, int... due) {
        String kinds = "icdvke";
        for (int i = 0; i < kinds.length(); i++) {
            char kind = kinds.charAt(i);
            x.clause(kind, true);
            Due.is("39: " + kind + " on " + name, due[i], () -> x.sets());
            x.clause(kind, false);
        }
    }

    private static void sets() {
        keep("nothing", new Bramblehall(), 1, 1, 1, 1, 1, 1);
        keep("a vertex", Due.hall(1), 2, 2, 1, 2, 2, 2);
        keep("an edge", Due.hall(2, 0, 1), 3, 4, 3, 3, 4, 3);
        keep("two vertices", Due.hall(2), 4, 3, 1, 4, 3, 4);
        keep("a path of 3", Due.path(3), 5, 6, 5, 5, 7, 5);
        keep("a triangle", Due.clique(3), 4, 8, 7, 4, 8, 5);
        keep("a ring of 4", Due.ring(4), 7, 9, 11, 7, 14, 8);
        Bramblehall x = Due.ring(5);
        x.clause('i', true);
        x.clause('d', true);
        Due.is("39: both", 5, () -> x.sets());
        x.clause('k', true);
        Due.is("39: all three", 0, () -> x.sets());
        Due.is("39: of ten", 1024, () -> Due.hall(10).sets());
    }

    private static void bestSet() {
        Bramblehall x = new Bramblehall();
        Due.is("40: nothing", 0, () -> x.bestSet());
        int[] weights = {5, 3, 3, 6};
        for (int w : weights) {
            x.vertex(w);
        }
        x.edge(0, 1, true);
        x.edge(1, 2, true);
        x.edge(2, 3, true);
        Due.is("40: no clause", 0, () -> x.bestSet());
        x.clause('v', true);
        Due.is("40: the lightest", 6, () -> x.bestSet());
        x.clause('i', true);
        Due.is("40: that is independent", 5, () -> x.bestSet());
        x.clause('v', false);
        x.clause('d', true);
        Due.is("40: and dominates", 5, () -> x.bestSet());
        x.clause('k', true);
        Due.fails("40: none", NONE, () -> x.bestSet());
        x.clause('i', false);
        Due.is("40: that hangs together", 6, () -> x.bestSet());
        Bramblehall even = Due.hall(3);
        even.clause('d', true);
        Due.is("40: all", 7, () -> even.bestSet());
        Bramblehall ties = Due.ring(4);
        ties.clause('d', true);
        Due.is("40: of several the least number", 3, () -> ties.bestSet());
        Bramblehall free = new Bramblehall();
        free.vertex(7);
        free.vertex(0);
        free.vertex(0);
        free.edge(0, 2, true);
        free.edge(0, 1, true);
        free.clause('v', true);
        Due.is("40: without weight", 6, () -> free.bestSet());
        free.contract(0, 1);
        Due.is("40: the heavier one stays out", 4, () -> free.bestSet());
    }

    private static void colours() {
        Due.is("41: nothing", 0, () -> new Bramblehall().colours());
        Due.is("41: lone ones", 1, () -> Due.hall(10).colours());
        Due.is("41: a path", 2, () -> Due.path(10).colours());
        Due.is("41: an odd ring", 3, () -> Due.ring(9).colours());
        Due.is("41: a clique", 10, () -> Due.clique(10).colours());
        Due.is("41: Petersen's graph", 3, () -> Due.petersen().colours());
        Due.is("42: nothing, no colours", 1L, () -> new Bramblehall().colourings(0));
        Due.is("42: nothing, nine colours", 1L, () -> new Bramblehall().colourings(9));
        Due.is("42: no colours", 0L, () -> Due.hall(1).colourings(0));
        Due.is("42: lone ones", 3486784401L, () -> Due.hall(10).colourings(9));
        Due.is("42: a path", 9L * 134217728L, () -> Due.path(10).colourings(9));
        Due.is("42: a clique", 0L, () -> Due.clique(10).colourings(9));
        Due.is("42: a clique of 9", 362880L, () -> Due.clique(9).colourings(9));
        Due.is("42: a ring of 5", 30L, () -> Due.ring(5).colourings(3));
        Due.is("42: a ring of 6", 66L, () -> Due.ring(6).colourings(3));
        Due.is("42: Petersen's graph", 120L, () -> Due.petersen().colourings(3));
        Due.is("42: Petersen's graph, by four", 12960L, () -> Due.petersen().colourings(4));
        Bramblehall x = Due.path(3);
        Due.is("42: by two", 2L, () -> x.colourings(2));
        Due.is("42: by one", 0L, () -> x.colourings(1));
        x.edge(0, 2, true);
        Due.is("42: closed", 0L, () -> x.colourings(2));
        Due.is("41: closed", 3, () -> x.colours());
        x.remove(1);
        Due.is("42: without one", 6L, () -> x.colourings(3));
        Due.is("41: without one", 2, () -> x.colours());
        for (int k : new int[] {-1, 10, Integer.MAX_VALUE, Integer.MIN_VALUE}) {
            Due.fails("42: " + k, ARGUMENT, () -> x.colourings(k));
        }
    }

    private static void rings() {
        Due.is("43: nothing", 0L, () -> new Bramblehall().rings());
        Due.is("43: a vertex", 0L, () -> Due.hall(1).rings());
        Due.is("43: an edge", 0L, () -> Due.hall(2, 0, 1).rings());
        Due.is("43: a triangle", 1L, () -> Due.clique(3).rings());
        Due.is("43: a clique of 4", 3L, () -> Due.clique(4).rings());
        Due.is("43: a clique of 10", 181440L, () -> Due.clique(10).rings());
        Due.is("43: five by five", 1440L, () -> Due.twoSides(5, 5).rings());
        Due.is("43: Petersen's graph", 0L, () -> Due.petersen().rings());
        Due.is("43: a path", 0L, () -> Due.path(5).rings());
        Bramblehall x = Due.hall(5, 1, 2, 2, 3, 3, 4, 4, 1);
        Due.is("43: one outside", 0L, () -> x.rings());
        x.remove(0);
        Due.is("43: without it", 1L, () -> x.rings());
    }

    private static void longest() {
        Due.fails("44: no vertices", NONE, () -> new Bramblehall().longest());
        Due.is("44: a vertex", 0, () -> Due.hall(1).longest());
        Due.is("44: lone ones", 0, () -> Due.hall(10).longest());
        Due.is("44: a path", 9, () -> Due.path(10).longest());
        Due.is("44: a star", 2, () -> Due.twoSides(1, 9).longest());
        Due.is("44: three by seven", 6, () -> Due.twoSides(3, 7).longest());
        Due.is("44: Petersen's graph", 9, () -> Due.petersen().longest());
        Due.is("44: two rings", 3, () -> Due.hall(7, 0, 1, 1, 2, 2, 0, 3, 4, 4, 5, 5, 6, 6, 3).longest());
        Bramblehall x = Due.path(3);
        x.remove(1);
        Due.is("44: cut in two", 0, () -> x.longest());
    }

    private static void link() {
        Bramblehall x = Due.grid(3, 3);
        Due.is("45: none", 0, () -> x.link(0));
        Due.is("45: one", 1, () -> x.link(16));
        Due.is("45: beside each other", 2, () -> x.link(3));
        Due.is("45: two corners", 5, () -> x.link(257));
        Due.is("45: all corners", 7, () -> x.link(325));
        Due.is("45: all", 9, () -> x.link(511));
        Due.fails("45: another vertex", ARGUMENT, () -> x.link(512));
        Due.fails("45: below 0", ARGUMENT, () -> x.link(-1));
        Bramblehall two = Due.hall(4, 0, 1, 2, 3);
        Due.fails("45: in two parts", NONE, () -> two.link(5));
        Due.is("45: in one of two", 2, () -> two.link(12));
        two.remove(0);
        Due.fails("45: gone", ARGUMENT, () -> two.link(1));
        Due.is("45: nothing", 0, () -> new Bramblehall().link(0));
        Due.is("45: a path of ten", 10, () -> Due.path(10).link(513));
    }

    private static void kernelIs(String name, Bramblehall x, int k, int left, int rest) {
        Due.is("46: " + name, left, () -> x.kernel(k));
        Due.is("47: " + name, rest, () -> x.kernelLeft(k));
    }

    private static void kernel() {
        kernelIs("nothing", new Bramblehall(), 0, 0, 0);
        kernelIs("nothing, ten", new Bramblehall(), 10, 0, 10);
        kernelIs("lone ones", Due.hall(10), 0, 0, 0);
        kernelIs("a ring", Due.ring(6), 3, 63, 3);
        kernelIs("a path of five", Due.path(5), 2, 0, 0);
        kernelIs("a star of more than k", Due.twoSides(1, 4), 3, 0, 2);
        kernelIs("a star of k", Due.twoSides(1, 4), 4, 0, 3);
        kernelIs("a clique of more than k", Due.clique(5), 4, 31, 4);
        // 0 has more than 4 neighbours, then no one has more than 3
        kernelIs("a clique of 6", Due.clique(6), 5, 63, 5);
        Bramblehall hub = Due.hall(7, 0, 1, 0, 2, 0, 3, 0, 4, 0, 5, 0, 6, 1, 2, 2, 3, 3, 4, 4, 5, 5, 6, 6, 1);
        kernelIs("a hub and a ring", hub, 4, 126, 3);
        kernelIs("a leaf at a ring", Due.hall(5, 0, 1, 1, 2, 2, 3, 3, 1, 4, 0), 3, 14, 2);
        Bramblehall x = Due.path(4);
        x.kernel(2);
        Due.is("46: the graph stays", 3, () -> x.edges());
        Due.is("46: all of it", 4, () -> x.size());
    }

    private static void refusedKernel() {
        Due.fails("46: an edge for none", NONE, () -> Due.hall(2, 0, 1).kernel(0));
        Due.fails("47: an edge for none", NONE, () -> Due.hall(2, 0, 1).kernelLeft(0));
        Due.fails("46: three edges for two", NONE, () -> Due.hall(6, 0, 1, 2, 3, 4, 5).kernel(2));
        Due.fails("46: more than k times k", NONE, () -> Due.ring(5).kernel(2));
        Due.is("46: just k times k", 15, () -> Due.ring(4).kernel(2));
        Due.fails("46: a clique of 10", NONE, () -> Due.clique(10).kernel(8));
        Due.is("46: a clique of 10, nine", 1023, () -> Due.clique(10).kernel(9));
        for (int k : new int[] {-1, 11, Integer.MAX_VALUE, Integer.MIN_VALUE}) {
            Due.fails("46: " + k, ARGUMENT, () -> Due.clique(4).kernel(k));
            Due.fails("47: " + k, ARGUMENT, () -> Due.clique(4).kernelLeft(k));
            Due.fails("48: " + k, ARGUMENT, () -> Due.clique(4).hasCover(k));
        }
    }

    private static void covered(String name, Bramblehall x, int due) {
        for (int k = 0; k <= 10; k++) {
            int most = k;
            Due.is("48: " + name + " by " + k, k >= due, () -> x.hasCover(most));
        }
    }

    private static void hasCover() {
        covered("nothing", new Bramblehall(), 0);
        covered("lone ones", Due.hall(10), 0);
        covered("a path", Due.path(10), 5);
        covered("a star", Due.twoSides(1, 9), 1);
        covered("a clique", Due.clique(10), 9);
        covered("Petersen's graph", Due.petersen(), 6);
        covered("a ring", Due.ring(7), 4);
    }
}
