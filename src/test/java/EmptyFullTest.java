/** Empty and full: no vertices, no edges, all gone, ten told; no bags and 20; no sets and 60; no hyperedges and 10. */
public final class EmptyFullTest {
    private static final Class<?> INDEX = IndexOutOfBoundsException.class;
    private static final Class<?> ARGUMENT = IllegalArgumentException.class;
    private static final Class<?> STATE = IllegalStateException.class;
    private static final Class<?> NONE = java.util.NoSuchElementException.class;
    private static final Class<?> UNSUPPORTED = UnsupportedOperationException.class;
    private static final Class<?> ARITHMETIC = ArithmeticException.class;
    private static final String WIDTHS = "tpcbrdgq";
    private static final String ORDERS = "tpcbr";
    private static final String MINORS = "345bo";
    private static final String CLASSES = "fsop";
    private static final String CLAUSES = "icdvke";

    public static void main(String[] args) {
        noVertices("new", new Bramblehall(), 0);
        noVertices("three gone", allGone(Due.path(3)), 3);
        noVertices("ten gone", allGone(Due.clique(10)), 10);
        noVertices("ten contracted", contractedAway(), 10);
        noEdges("one", Due.hall(1));
        noEdges("two", Due.hall(2));
        noEdges("seven", Due.hall(7));
        noEdges("eight", Due.hall(8));
        noEdges("ten", Due.hall(10));
        noEdges("taken away", withoutItsEdges(Due.clique(6)));
        noEdges("of a star", withoutFirst(Due.twoSides(1, 9)));
        noEdges("the last one of ten", lastOne());
        tenVertices();
        eleventh();
        tenth();
        bags();
        twentyAgain();
        family();
        havensFamily();
        manySets();
        parts();
        hyperedges();
        emptiedHyperedges();
        order();
        clauses();
        calls();
        Due.end();
    }

    private static Bramblehall allGone(Bramblehall x) {
        for (int v = x.size() - 1; v >= 0; v--) {
            x.remove(v);
        }
        return x;
    }

    private static Bramblehall contractedAway() {
        Bramblehall x = Due.petersen();
        for (int v = 0; v < 9; v++) {
            x.contract(v, v + 1);
        }
        x.remove(9);
        return x;
    }

    private static Bramblehall withoutItsEdges(Bramblehall x) {
        for (int v = 0; v < x.size(); v++) {
            for (int w = 0; w < v; w++) {
                x.edge(v, w, false);
            }
        }
        return x;
    }

    private static Bramblehall withoutFirst(Bramblehall x) {
        x.remove(0);
        return x;
    }

    private static Bramblehall lastOne() {
        Bramblehall x = Due.clique(10);
        for (int v = 0; v < 9; v++) {
            x.remove(v);
        }
        return x;
    }

    // ---- no vertices

    private static void noVertices(String name, Bramblehall x, int told) {
        graphOfNone(name, x, told);
        widthsOfNone(name, x);
        bagsOfNone(name, x);
        huntOfNone(name, x);
        minorsOfNone(name, x);
        programsOfNone(name, x);
        twinsOfNone(name, x);
        if (told < 10) {
            Due.is("2: the next of " + name, told, () -> x.vertex(1));
        } else {
            Due.fails("2: the next of " + name, STATE, () -> x.vertex(1));
        }
    }

    private static void graphOfNone(String name, Bramblehall x, int told) {
        Due.is("6: size, " + name, 0, () -> x.size());
        Due.is("7: edges, " + name, 0, () -> x.edges());
        Due.is("9: parts, " + name, 0, () -> x.parts());
        for (int i = 0; i <= 10; i++) {
            int v = i;
            String what = v + ", " + name;
            Due.fails("3: edge " + what, INDEX, () -> x.edge(v, (v + 1) % 10, true));
            Due.fails("3: edge to itself " + what, INDEX, () -> x.edge(v, v, true));
            Due.fails("4: remove " + what, INDEX, () -> x.remove(v));
            Due.fails("5: contract " + what, INDEX, () -> x.contract(v, (v + 1) % 10));
            Due.fails("5: contract into itself " + what, INDEX, () -> x.contract(v, v));
            Due.fails("8: neighbours " + what, INDEX, () -> x.neighbours(v));
            Due.fails("10: weight " + what, INDEX, () -> x.weight(v));
            Due.fails("13: place " + what, INDEX, () -> x.place(v));
            Due.fails("53: join " + what, INDEX, () -> x.join(v, v));
        }
    }

    private static void widthsOfNone(String name, Bramblehall x) {
        for (char kind : WIDTHS.toCharArray()) {
            Due.is("11: " + kind + ", " + name, 0, () -> x.width(kind));
        }
        for (char kind : ORDERS.toCharArray()) {
            Due.fails("12: " + kind + ", " + name, INDEX, () -> x.orderAt(kind, 0));
            Due.is("15: " + kind + ", " + name, 0, () -> x.widthOf(kind));
        }
        Due.is("14: order, " + name, 0, () -> x.clearOrder());
        Due.is("16: lower, " + name, 0, () -> x.lower());
        Due.is("17: upper, " + name, 0, () -> x.upper());
    }

    private static void bagsOfNone(String name, Bramblehall x) {
        Due.is("19: bags, " + name, 0, () -> x.clearBags());
        Due.is("21: without bags, " + name, '-', () -> x.check());
        Due.fails("22: width, " + name, NONE, () -> x.bagWidth());
        Due.fails("25: nice, " + name, NONE, () -> x.nice());
        Due.is("20: decompose, " + name, 0, () -> x.decompose());
        Due.fails("23: first bag, " + name, INDEX, () -> x.bagAt(0));
        Due.fails("24: above the first bag, " + name, INDEX, () -> x.above(0));
        Due.is("52: cover without bags, " + name, 0, () -> x.cover());
        Due.fails("18: a bag with a vertex, " + name, ARGUMENT, () -> x.bag(1, -1));
        Due.fails("18: a bag below none, " + name, INDEX, () -> x.bag(0, 0));
        Due.is("18: an empty bag, " + name, 0, () -> x.bag(0, -1));
        Due.is("21: with an empty bag, " + name, '-', () -> x.check());
        Due.is("22: width of an empty bag, " + name, -1, () -> x.bagWidth());
        Due.is("25: nice form of an empty bag, " + name, 1, () -> x.nice());
        Due.is("52: cover of an empty bag, " + name, 0, () -> x.cover());
        Due.is("20: decompose again, " + name, 0, () -> x.decompose());
        Due.fails("22: width again, " + name, NONE, () -> x.bagWidth());
    }

    private static void huntOfNone(String name, Bramblehall x) {
        Due.is("27: searchers, " + name, 0, () -> x.searchers());
        Due.is("26: none win, " + name, true, () -> x.win(0));
        Due.is("26: ten win, " + name, true, () -> x.win(10));
        Due.fails("28: haven, " + name, NONE, () -> x.haven(0, 0));
        Due.fails("28: haven of one vertex, " + name, ARGUMENT, () -> x.haven(1, 1));
        Due.fails("29: put none, " + name, ARGUMENT, () -> x.put(0));
        Due.fails("29: put, " + name, ARGUMENT, () -> x.put(1));
        Due.is("31: empty family, " + name, true, () -> x.isBramble());
        Due.is("32: order, " + name, 0, () -> x.familyOrder());
        Due.fails("33: haven's family, " + name, NONE, () -> x.takeHaven());
        Due.is("30: family, " + name, 0, () -> x.clearFamily());
    }

    private static void minorsOfNone(String name, Bramblehall x) {
        for (char kind : MINORS.toCharArray()) {
            Due.is("34: " + kind + ", " + name, false, () -> x.hasMinor(kind));
            Due.fails("35: " + kind + ", " + name, NONE, () -> x.model(kind, 0));
        }
        for (char kind : CLASSES.toCharArray()) {
            Due.is("36: " + kind + ", " + name, true, () -> x.isIn(kind));
            Due.is("37: " + kind + ", " + name, 0, () -> x.apex(kind));
        }
    }

    private static void programsOfNone(String name, Bramblehall x) {
        Due.is("39: sets, " + name, 1, () -> x.sets());
        Due.is("40: best set, " + name, 0, () -> x.bestSet());
        for (char kind : CLAUSES.toCharArray()) {
            Due.is("38: " + kind + ", " + name, false, () -> x.clause(kind, true));
            Due.is("39: sets by " + kind + ", " + name, 1, () -> x.sets());
            Due.is("40: best set by " + kind + ", " + name, 0, () -> x.bestSet());
        }
        for (char kind : CLAUSES.toCharArray()) {
            Due.is("38: " + kind + " taken back, " + name, true, () -> x.clause(kind, false));
        }
        Due.is("41: colours, " + name, 0, () -> x.colours());
        Due.is("42: by none, " + name, 1L, () -> x.colourings(0));
        Due.is("42: by nine, " + name, 1L, () -> x.colourings(9));
        Due.is("43: rings, " + name, 0L, () -> x.rings());
        Due.fails("44: longest, " + name, NONE, () -> x.longest());
        Due.is("45: link of none, " + name, 0, () -> x.link(0));
        Due.fails("45: link, " + name, ARGUMENT, () -> x.link(1));
        Due.is("46: kernel, " + name, 0, () -> x.kernel(0));
        Due.is("47: left, " + name, 0, () -> x.kernelLeft(0));
        Due.is("47: left of ten, " + name, 10, () -> x.kernelLeft(10));
        Due.is("48: cover, " + name, true, () -> x.hasCover(0));
    }

    private static void twinsOfNone(String name, Bramblehall x) {
        Due.fails("49: empty hyperedge, " + name, ARGUMENT, () -> x.hyperedge(0));
        Due.fails("49: hyperedge, " + name, ARGUMENT, () -> x.hyperedge(1));
        Due.is("51: acyclic, " + name, true, () -> x.isAcyclic());
        Due.is("50: hyperedges, " + name, 0, () -> x.clearHyperedges());
        Due.is("54: parts, " + name, 0, () -> x.split());
        Due.is("55: red, " + name, 0, () -> x.red());
        Due.is("56: twin width, " + name, 0, () -> x.twinWidth());
        Due.fails("57: density, " + name, ARITHMETIC, () -> x.density());
        Due.fails("58: mean degree, " + name, ARITHMETIC, () -> x.meanDegree());
        Due.is("59: " + name, true, () -> x.isTrue());
    }

    // ---- no edges

    private static void noEdges(String name, Bramblehall x) {
        int all = 0;
        for (int v = 0; v < 10; v++) {
            int u = v;
            if (Due.answer(() -> x.neighbours(u)).equals("0")) {
                all |= 1 << v;
            }
        }
        int n = Integer.bitCount(all);
        Due.is("6: size, " + name, n, () -> x.size());
        Due.is("7: edges, " + name, 0, () -> x.edges());
        Due.is("9: parts, " + name, n, () -> x.parts());
        widthsOfLone(name, x, all, n);
        bagsOfLone(name, x, all, n);
        huntOfLone(name, x, all);
        minorsOfLone(name, x);
        setsOfLone(name, x, all, n);
        programsOfLone(name, x, all, n);
        twinsOfLone(name, x, n);
    }

    private static int[] members(int set) {
        int[] found = new int[Integer.bitCount(set)];
        int count = 0;
        for (int v = 0; v < 10; v++) {
            if ((set & 1 << v) != 0) {
                found[count] = v;
                count++;
            }
        }
        return found;
    }

    private static void widthsOfLone(String name, Bramblehall x, int all, int n) {
        int[] vertices = members(all);
        int[] due = {0, 0, 0, 0, 0, 1, 0, 1};
        for (int i = 0; i < WIDTHS.length(); i++) {
            char kind = WIDTHS.charAt(i);
            Due.is("11: " + kind + ", " + name, due[i], () -> x.width(kind));
        }
        for (char kind : ORDERS.toCharArray()) {
            Due.fails("15: none is told, " + kind + ", " + name, UNSUPPORTED, () -> x.widthOf(kind));
            for (int i = 0; i < n; i++) {
                int index = i;
                Due.is("12: " + kind + " at " + i + ", " + name, vertices[i], () -> x.orderAt(kind, index));
            }
            Due.fails("12: " + kind + " behind the last, " + name, INDEX, () -> x.orderAt(kind, n));
        }
        for (int i = n - 1; i >= 0; i--) {
            int v = vertices[i];
            int count = n - i;
            Due.is("13: place " + v + ", " + name, count, () -> x.place(v));
        }
        for (char kind : ORDERS.toCharArray()) {
            Due.is("15: " + kind + ", " + name, 0, () -> x.widthOf(kind));
        }
        Due.is("14: order, " + name, n, () -> x.clearOrder());
        Due.is("16: lower, " + name, 0, () -> x.lower());
        Due.is("17: upper, " + name, 0, () -> x.upper());
    }

    /** The bags of lone vertices stand in a chain, the last vertex first. */
    private static void bagsOfLone(String name, Bramblehall x, int all, int n) {
        int[] vertices = members(all);
        Due.is("21: no bags, " + name, 'v', () -> x.check());
        Due.is("20: decompose, " + name, n, () -> x.decompose());
        for (int i = 0; i < n; i++) {
            int bag = i;
            Due.is("20: bag " + i + ", " + name, 1 << vertices[n - 1 - i], () -> x.bagAt(bag));
            Due.is("20: above " + i + ", " + name, bag - 1, () -> x.above(bag));
        }
        Due.is("21: decomposed, " + name, '-', () -> x.check());
        Due.is("22: decomposed, " + name, 0, () -> x.bagWidth());
        // two for the last bag, two between neighbours in the chain, one for the first
        Due.is("25: decomposed, " + name, 2 + 2 * (n - 1) + 1, () -> x.nice());
        Due.fails("52: no hyperedges, " + name, NONE, () -> x.cover());
        Due.is("19: decomposed, " + name, n, () -> x.clearBags());
    }

    private static void huntOfLone(String name, Bramblehall x, int all) {
        int first = all & -all;
        Due.is("27: searchers, " + name, 1, () -> x.searchers());
        Due.is("26: none do not win, " + name, false, () -> x.win(0));
        Due.is("26: one wins, " + name, true, () -> x.win(1));
        Due.is("28: haven, " + name, first, () -> x.haven(0, 0));
        Due.fails("28: one on the first, " + name, NONE, () -> x.haven(1, first));
        Due.fails("28: none on the first, " + name, ARGUMENT, () -> x.haven(0, first));
        Due.is("33: haven's family, " + name, 1, () -> x.takeHaven());
        Due.is("31: haven's family, " + name, true, () -> x.isBramble());
        Due.fails("33: the first is in it, " + name, UNSUPPORTED, () -> x.put(first));
        Due.is("30: nothing else is, " + name, 1, () -> x.clearFamily());
    }

    private static void minorsOfLone(String name, Bramblehall x) {
        for (char kind : MINORS.toCharArray()) {
            Due.is("34: " + kind + ", " + name, false, () -> x.hasMinor(kind));
            Due.fails("35: " + kind + ", " + name, NONE, () -> x.model(kind, 0));
        }
        for (char kind : CLASSES.toCharArray()) {
            Due.is("36: " + kind + ", " + name, true, () -> x.isIn(kind));
            Due.is("37: " + kind + ", " + name, 0, () -> x.apex(kind));
        }
    }

    private static void setsOfLone(String name, Bramblehall x, int all, int n) {
        Due.is("39: no clause, " + name, 1 << n, () -> x.sets());
        int[] due = {1 << n, 1 + n, 1, 1 << n, 1 + n, 1 << n};
        for (int i = 0; i < CLAUSES.length(); i++) {
            char kind = CLAUSES.charAt(i);
            x.clause(kind, true);
            Due.is("39: " + kind + ", " + name, due[i], () -> x.sets());
            Due.is("40: " + kind + ", " + name, kind == 'd' ? all : 0, () -> x.bestSet());
            x.clause(kind, false);
        }
    }

    private static void programsOfLone(String name, Bramblehall x, int all, int n) {
        Due.is("41: colours, " + name, 1, () -> x.colours());
        for (int k = 0; k <= 9; k++) {
            int colours = k;
            long due = 1;
            for (int i = 0; i < n; i++) {
                due *= k;
            }
            Due.is("42: by " + k + ", " + name, due, () -> x.colourings(colours));
        }
        Due.is("43: rings, " + name, 0L, () -> x.rings());
        Due.is("44: longest, " + name, 0, () -> x.longest());
        Due.is("45: link of none, " + name, 0, () -> x.link(0));
        Due.is("45: link of the first, " + name, 1, () -> x.link(all & -all));
        if (n > 1) {
            Due.fails("45: link of all, " + name, NONE, () -> x.link(all));
        }
        Due.is("46: kernel, " + name, 0, () -> x.kernel(0));
        Due.is("47: left, " + name, 0, () -> x.kernelLeft(0));
        Due.is("47: left of ten, " + name, 10, () -> x.kernelLeft(10));
        Due.is("48: cover, " + name, true, () -> x.hasCover(0));
    }

    private static void twinsOfLone(String name, Bramblehall x, int n) {
        Due.is("55: red, " + name, 0, () -> x.red());
        Due.is("54: parts, " + name, n, () -> x.split());
        if (n > 7) {
            Due.fails("56: twin width, " + name, UNSUPPORTED, () -> x.twinWidth());
        } else {
            Due.is("56: twin width, " + name, 0, () -> x.twinWidth());
        }
        if (n < 2) {
            Due.fails("57: density, " + name, ARITHMETIC, () -> x.density());
        } else {
            Due.is("57: density, " + name, 0.0f, () -> x.density());
        }
        Due.is("58: mean degree, " + name, 0.0, () -> x.meanDegree());
        Due.is("59: " + name, true, () -> x.isTrue());
    }

    // ---- ten vertices, all beside one another

    private static void tenVertices() {
        Bramblehall x = Due.clique(10);
        Due.is("6: ten", 10, () -> x.size());
        Due.is("7: ten", 45, () -> x.edges());
        Due.is("8: ten", 511, () -> x.neighbours(9));
        Due.is("9: ten", 1, () -> x.parts());
        int[] due = {9, 9, 25, 9, 1, 10, 9, 10};
        for (int i = 0; i < WIDTHS.length(); i++) {
            char kind = WIDTHS.charAt(i);
            Due.is("11: ten, " + kind, due[i], () -> x.width(kind));
        }
        for (char kind : ORDERS.toCharArray()) {
            Due.is("12: ten, the last of " + kind, 9, () -> x.orderAt(kind, 9));
            Due.fails("12: ten, behind the last of " + kind, INDEX, () -> x.orderAt(kind, 10));
        }
        Due.is("16: ten", 9, () -> x.lower());
        Due.is("17: ten", 9, () -> x.upper());
        Due.is("20: ten", 10, () -> x.decompose());
        Due.is("20: ten, the last bag", 1023, () -> x.bagAt(9));
        Due.is("22: ten", 9, () -> x.bagWidth());
        Due.is("25: ten", 11 + 9 + 1, () -> x.nice());
        Due.is("27: ten", 10, () -> x.searchers());
        Due.is("28: nine on all but the last", 512, () -> x.haven(9, 511));
        Due.fails("28: ten on all", NONE, () -> x.haven(10, 1023));
        Due.fails("28: nine on all", ARGUMENT, () -> x.haven(9, 1023));
        for (char kind : MINORS.toCharArray()) {
            Due.is("34: ten, " + kind, true, () -> x.hasMinor(kind));
        }
        Due.is("39: ten", 1024, () -> x.sets());
        Due.is("41: ten", 10, () -> x.colours());
        Due.is("42: ten by nine", 0L, () -> x.colourings(9));
        Due.is("43: ten", 181440L, () -> x.rings());
        Due.is("44: ten", 9, () -> x.longest());
        Due.is("45: ten", 10, () -> x.link(1023));
        Due.is("46: ten by nine", 1023, () -> x.kernel(9));
        Due.fails("46: ten by eight", NONE, () -> x.kernel(8));
        Due.is("48: ten by nine", true, () -> x.hasCover(9));
        Due.is("48: ten by eight", false, () -> x.hasCover(8));
        Due.is("57: ten", 1.0f, () -> x.density());
        Due.is("58: ten", 9.0, () -> x.meanDegree());
        Due.is("59: ten", true, () -> x.isTrue());
        Due.is("42: lone ones, the most of all", 3486784401L, () -> Due.hall(10).colourings(9));
    }

    /** Those that are gone count, too. */
    private static void eleventh() {
        Bramblehall x = new Bramblehall();
        for (int i = 0; i < 10; i++) {
            int number = i;
            Due.is("2: of ten", number, () -> x.vertex(99));
        }
        Due.fails("2: eleventh", STATE, () -> x.vertex(0));
        for (int v = 0; v < 9; v++) {
            int gone = v;
            Due.is("5: contract " + v, 0, () -> x.contract(gone, 9));
            Due.is("10: weight of the last", 99 * (gone + 2), () -> x.weight(9));
            Due.fails("2: eleventh, " + (v + 1) + " contracted", STATE, () -> x.vertex(0));
            Due.fails("2: eleventh of 100, " + (v + 1) + " contracted", ARGUMENT, () -> x.vertex(100));
        }
        x.clause('d', true);
        Due.is("40: the heavy one", 512, () -> x.bestSet());
        x.remove(9);
        Due.fails("2: eleventh, all gone", STATE, () -> x.vertex(0));
        Bramblehall y = Due.hall(9);
        for (int v = 0; v < 9; v++) {
            y.remove(v);
        }
        Due.is("2: the tenth, nine gone", 9, () -> y.vertex(0));
        Due.fails("2: the eleventh, nine gone", STATE, () -> y.vertex(0));
        Due.is("6: one", 1, () -> y.size());
    }

    /** The last vertex of ten counts as the others do. */
    private static void tenth() {
        Bramblehall pair = Due.hall(10, 0, 9);
        Due.is("20: the tenth", 10, () -> pair.decompose());
        Due.is("20: the tenth comes first", 512, () -> pair.bagAt(0));
        Due.is("20: beside the tenth", 513, () -> pair.bagAt(9));
        Due.is("20: below the tenth", 0, () -> pair.above(9));
        Due.is("46: beside the tenth", 0, () -> pair.kernel(1));
        Bramblehall star = Due.hall(10, 0, 9, 1, 9, 2, 9);
        Due.is("47: the tenth goes", 2, () -> star.kernelLeft(3));
        Due.is("47: the tenth goes, as it has more", 1, () -> star.kernelLeft(2));
        Due.is("48: the tenth covers", true, () -> star.hasCover(1));
        Due.is("44: by the tenth", 2, () -> star.longest());
        Due.is("45: by the tenth", 4, () -> star.link(7));
        Due.is("28: beside the tenth", 1, () -> star.haven(1, 512));
        star.join(0, 3);
        star.join(1, 4);
        star.join(2, 5);
        Due.is("55: the tenth is red to three", 3, () -> star.red());
        star.join(9, 6);
        Due.is("55: the tenth and another one are red to three", 3, () -> star.red());
        Bramblehall alone = Due.hall(10, 1, 8, 8, 9);
        alone.join(0, 1);
        Due.is("55: red to the last but one", 1, () -> alone.red());
        Bramblehall last = Due.hall(10, 1, 9);
        last.join(0, 1);
        Due.is("55: red to the tenth", 1, () -> last.red());
        Bramblehall four = Due.path(10);
        for (int v = 0; v < 6; v++) {
            four.remove(v);
        }
        Due.is("56: the last four", 1, () -> four.twinWidth());
        Due.is("41: the last four", 2, () -> four.colours());
        Due.is("42: the last four", 3L * 8, () -> four.colourings(3));
        four.edge(9, 6, true);
        Due.is("43: a ring of the last four", 1L, () -> four.rings());
        Due.is("56: a ring of the last four", 0, () -> four.twinWidth());
        Due.is("35: a ring of the last four", 64, () -> four.model('3', 0));
        Due.is("35: a ring of the last four, at the end", 768, () -> four.model('3', 2));
        Due.is("37: a ring of the last four", 1, () -> four.apex('f'));
    }

    // ---- bags

    private static void bags() {
        Bramblehall x = Due.hall(2, 0, 1);
        Due.is("19: no bags", 0, () -> x.clearBags());
        Due.is("21: no bags", 'v', () -> x.check());
        Due.fails("22: no bags", NONE, () -> x.bagWidth());
        Due.fails("25: no bags", NONE, () -> x.nice());
        Due.is("52: no bags", 0, () -> x.cover());
        Due.fails("18: below 0, no bags", INDEX, () -> x.bag(3, 0));
        for (int i = 0; i < 20; i++) {
            int number = i;
            Due.is("18: of twenty", number, () -> x.bag(3, number == 0 ? -1 : 0));
        }
        Due.fails("18: below -1, twenty bags", INDEX, () -> x.bag(3, -1));
        Due.fails("18: below 20, twenty bags", INDEX, () -> x.bag(3, 20));
        Due.fails("18: below 19, twenty bags", STATE, () -> x.bag(3, 19));
        Due.fails("18: below 0, twenty bags", STATE, () -> x.bag(0, 0));
        Due.is("21: twenty", '-', () -> x.check());
        Due.is("22: twenty", 1, () -> x.bagWidth());
        // three for each of nineteen, eighteen for those below the first one, two for the first one
        Due.is("25: twenty", 19 * 3 + 18 + 2, () -> x.nice());
        Due.is("23: the last of twenty", 3, () -> x.bagAt(19));
        Due.is("24: the last of twenty", 0, () -> x.above(19));
        Due.fails("23: behind the last of twenty", INDEX, () -> x.bagAt(20));
        Due.fails("24: behind the last of twenty", INDEX, () -> x.above(20));
        x.hyperedge(3);
        Due.is("52: twenty", 1, () -> x.cover());
        x.remove(0);
        x.remove(1);
        Due.is("22: twenty empty ones", -1, () -> x.bagWidth());
        Due.is("25: twenty empty ones", 19 + 18, () -> x.nice());
        Due.fails("18: twenty empty ones", STATE, () -> x.bag(0, 0));
        Due.is("52: twenty empty ones", 0, () -> x.cover());
        Due.is("19: twenty", 20, () -> x.clearBags());
        Due.fails("18: below 0, none again", INDEX, () -> x.bag(0, 0));
        Due.is("18: the first again", 0, () -> x.bag(0, -1));
    }

    private static void twentyAgain() {
        Bramblehall x = Due.hall(10);
        for (int i = 0; i < 20; i++) {
            x.bag(1, i - 1);
        }
        Due.is("20: ten in place of twenty", 10, () -> x.decompose());
        Due.fails("23: the eleventh is away", INDEX, () -> x.bagAt(10));
        Due.fails("18: a first one again", INDEX, () -> x.bag(1, -1));
        for (int i = 10; i < 20; i++) {
            int number = i;
            Due.is("18: told behind those that are made", number, () -> x.bag(1, number - 1));
        }
        Due.fails("18: twenty again", STATE, () -> x.bag(1, 19));
        Bramblehall chain = Due.hall(1);
        for (int i = 0; i < 20; i++) {
            chain.bag(i % 2, i - 1);
        }
        Due.is("21: the bags of 0 do not hang together", 'c', () -> chain.check());
        Due.fails("25: nor is there a nice form", UNSUPPORTED, () -> chain.nice());
    }

    // ---- families

    private static void family() {
        Bramblehall x = Due.hall(10);
        Due.is("30: no family", 0, () -> x.clearFamily());
        Due.is("31: no family", true, () -> x.isBramble());
        Due.is("32: no family", 0, () -> x.familyOrder());
        for (int i = 1; i <= 60; i++) {
            int count = i;
            Due.is("29: of sixty", count, () -> x.put(1023 - count));
        }
        Due.fails("29: a sixty-first", STATE, () -> x.put(1023));
        Due.fails("29: the first again", UNSUPPORTED, () -> x.put(1022));
        Due.fails("29: the sixtieth again", UNSUPPORTED, () -> x.put(963));
        Due.fails("29: none, sixty there", ARGUMENT, () -> x.put(0));
        Due.fails("29: no such vertex, sixty there", ARGUMENT, () -> x.put(1024));
        Due.is("31: sixty that do not hang together", false, () -> x.isBramble());
        Due.is("32: sixty", 1, () -> x.familyOrder());
        Due.is("30: sixty", 60, () -> x.clearFamily());
        Due.is("29: one again", 1, () -> x.put(1023));
        Bramblehall clique = Due.clique(6);
        for (int set = 1; set <= 60; set++) {
            clique.put(set);
        }
        Due.is("31: sixty of a clique", true, () -> clique.isBramble());
        Due.is("32: sixty of a clique, each alone too", 6, () -> clique.familyOrder());
        clique.remove(5);
        Due.is("30: as a vertex went", 0, () -> clique.clearFamily());
        Due.is("31: emptied", true, () -> clique.isBramble());
        Due.is("32: emptied", 0, () -> clique.familyOrder());
    }

    /** A clique's haven tells what is left of each set: all sets but the empty one, up to sixty. */
    private static void havensFamily() {
        Bramblehall five = Due.clique(5);
        five.put(7);
        Due.is("33: five beside one another", 5, () -> five.takeHaven());
        Due.is("33: it is a bramble", true, () -> five.isBramble());
        Due.is("33: 31 sets", 31, () -> five.clearFamily());
        Bramblehall six = Due.clique(6);
        Due.is("33: six beside one another, not all sets", 4, () -> six.takeHaven());
        for (int left = 1; left <= 63; left++) {
            int set = left;
            // the sets on which the searchers stand rise, so that what is left of them falls
            Due.fails("33: " + set + " of sixty", set > 3 ? UNSUPPORTED : STATE, () -> six.put(set));
        }
        Due.is("33: sixty", 60, () -> six.clearFamily());
        for (int set = 1; set <= 60; set++) {
            six.put(set);
        }
        Due.is("33: in place of sixty", 4, () -> six.takeHaven());
        Due.fails("33: the first of the sixty is away", STATE, () -> six.put(1));
        Bramblehall ring = Due.ring(3);
        for (int set = 1; set <= 7; set++) {
            ring.put(set);
        }
        ring.edge(0, 1, false);
        Due.is("33: fewer in place of more", 2, () -> ring.takeHaven());
        // {} -> all, {0} -> 1 and 2, {1} -> 0 and 2, {2} -> 0
        Due.is("33: four", 4, () -> ring.clearFamily());
    }

    /** Up to sixty parts, not those of the first sixty sets alone. */
    private static void manySets() {
        Bramblehall ring = Due.ring(7);
        Due.is("33: a ring of seven", 3, () -> ring.takeHaven());
        Due.fails("33: without the last one", UNSUPPORTED, () -> ring.put(63));
        Due.fails("33: without the last two", UNSUPPORTED, () -> ring.put(31));
        Due.fails("33: between the last one and 1", UNSUPPORTED, () -> ring.put(1));
        // all; six for each vertex; five, or the part of the lowest one, for each two
        Due.is("33: all of them", partsOfRing(7), () -> ring.clearFamily());
        Bramblehall late = new Bramblehall();
        for (int v = 0; v < 10; v++) {
            late.vertex(1);
        }
        for (int v = 0; v < 7; v++) {
            late.remove(v);
        }
        late.edge(7, 8, true);
        late.edge(8, 9, true);
        Due.is("33: three late ones", 2, () -> late.takeHaven());
        Due.fails("33: all three", UNSUPPORTED, () -> late.put(896));
        Due.fails("33: without the first", UNSUPPORTED, () -> late.put(768));
        Due.fails("33: without the second, the lowest", UNSUPPORTED, () -> late.put(128));
        Due.fails("33: without the last", UNSUPPORTED, () -> late.put(384));
        Due.is("33: four", 4, () -> late.clearFamily());
    }

    /** How many unlike parts two searchers leave to a robber on a ring. */
    private static int partsOfRing(int n) {
        java.util.TreeSet<Integer> found = new java.util.TreeSet<>();
        int all = (1 << n) - 1;
        for (int taken = 0; taken <= all; taken++) {
            if (Integer.bitCount(taken) <= 2) {
                int part = ~taken & taken + 1;
                for (int step = 0; step < n; step++) {
                    part |= (part << 1 | part >> 1 | part >> n - 1 | part << n - 1) & all & ~taken;
                }
                found.add(part);
            }
        }
        return found.size();
    }

    /** One part of all, and each alone again. */
    private static void parts() {
        for (int n = 1; n <= 10; n++) {
            int vertices = n;
            Bramblehall x = Due.path(n);
            for (int v = 1; v < n; v++) {
                int left = n - v;
                int other = v;
                Due.is("53: " + left + " of " + n, left, () -> x.join(other - 1, other));
            }
            Due.fails("53: one is left of " + n, UNSUPPORTED, () -> x.join(0, vertices - 1));
            Due.is("55: one is left of " + n, 0, () -> x.red());
            Due.is("54: one is left of " + n, 1, () -> x.split());
            Due.is("54: all " + n, n, () -> x.split());
        }
        Bramblehall eight = Due.path(8);
        eight.join(0, 1);
        eight.join(2, 3);
        Due.fails("56: eight in six parts", UNSUPPORTED, () -> eight.twinWidth());
        Due.is("54: eight in six parts", 6, () -> eight.split());
        Bramblehall ten = Due.path(10);
        ten.remove(9);
        ten.contract(0, 1);
        Due.fails("56: eight of ten are left", UNSUPPORTED, () -> ten.twinWidth());
        ten.remove(1);
        Due.is("56: seven of ten are left", 1, () -> ten.twinWidth());
        Bramblehall clique = Due.clique(7);
        Due.is("56: seven", 0, () -> clique.twinWidth());
        clique.remove(6);
        clique.vertex(1);
        Due.is("56: another seventh, alone", 0, () -> clique.twinWidth());
        for (int v = 0; v < 6; v++) {
            clique.edge(7, v, true);
        }
        Due.is("56: another seventh, beside all", 0, () -> clique.twinWidth());
        Due.fails("56: an eighth", UNSUPPORTED, () -> {
            clique.vertex(1);
            return clique.twinWidth();
        });
        clique.remove(0);
        Due.is("56: seven again", 0, () -> clique.twinWidth());
    }

    // ---- hyperedges

    private static void hyperedges() {
        Bramblehall x = Due.hall(10);
        Due.is("50: no hyperedges", 0, () -> x.clearHyperedges());
        Due.is("51: no hyperedges", true, () -> x.isAcyclic());
        x.bag(0, -1);
        Due.is("52: no hyperedges, an empty bag", 0, () -> x.cover());
        x.bag(512, 0);
        Due.fails("52: no hyperedges, a bag", NONE, () -> x.cover());
        for (int i = 0; i < 10; i++) {
            int count = i + 1;
            Due.is("49: of ten", count, () -> x.hyperedge(1 << count - 1));
        }
        Due.fails("49: an eleventh", STATE, () -> x.hyperedge(1023));
        Due.fails("49: an eleventh, one that is there", STATE, () -> x.hyperedge(1));
        Due.fails("49: an empty eleventh", ARGUMENT, () -> x.hyperedge(0));
        Due.fails("49: no such vertex, ten there", ARGUMENT, () -> x.hyperedge(1024));
        Due.is("51: ten", true, () -> x.isAcyclic());
        Due.is("52: the last one alone", 1, () -> x.cover());
        x.bag(1023, 1);
        Due.is("52: all ten", 10, () -> x.cover());
        Due.is("50: ten", 10, () -> x.clearHyperedges());
        Due.is("49: one again", 1, () -> x.hyperedge(1023));
    }

    /** What becomes empty stays, and counts. */
    private static void emptiedHyperedges() {
        Bramblehall x = Due.hall(4);
        for (int i = 0; i < 9; i++) {
            x.hyperedge(1 + i % 3 * 2);
        }
        x.hyperedge(8);
        for (int v = 0; v < 3; v++) {
            x.remove(v);
        }
        Due.fails("49: nine have become empty", STATE, () -> x.hyperedge(8));
        Due.is("51: nine empty ones and one", true, () -> x.isAcyclic());
        x.bag(8, -1);
        Due.is("52: nine empty ones and one", 1, () -> x.cover());
        x.remove(3);
        Due.is("51: ten empty ones", true, () -> x.isAcyclic());
        Due.is("52: ten empty ones", 0, () -> x.cover());
        Due.is("50: ten empty ones", 10, () -> x.clearHyperedges());
    }

    // ---- the order that is told

    private static void order() {
        Bramblehall x = Due.ring(10);
        Due.is("14: empty", 0, () -> x.clearOrder());
        for (int i = 0; i < 10; i++) {
            int v = i;
            Due.fails("15: " + v + " told of ten", UNSUPPORTED, () -> x.widthOf('c'));
            Due.is("13: of ten", v + 1, () -> x.place(v));
            Due.fails("13: again", UNSUPPORTED, () -> x.place(v));
        }
        Due.fails("13: a new one behind the whole", INDEX, () -> x.place(10));
        Bramblehall cleared = Due.path(10);
        for (int v = 9; v >= 0; v--) {
            cleared.place(v);
        }
        Due.is("14: ten", 10, () -> cleared.clearOrder());
        Due.is("14: none of ten", 0, () -> cleared.clearOrder());
        Due.is("13: the first of ten again", 1, () -> cleared.place(4));
        for (char kind : ORDERS.toCharArray()) {
            Due.is("15: whole, " + kind, kind == 'b' ? 9 : 2, () -> x.widthOf(kind));
        }
        x.remove(4);
        Due.is("15: whole still", 9 - 1, () -> x.widthOf('b'));
        x.contract(0, 9);
        Due.is("15: and still", 7, () -> x.widthOf('b'));
        Due.is("14: eight", 8, () -> x.clearOrder());
        Due.fails("15: emptied", UNSUPPORTED, () -> x.widthOf('t'));
        Due.is("14: none", 0, () -> x.clearOrder());
        Bramblehall y = Due.hall(3, 0, 1);
        y.place(1);
        y.place(0);
        for (char kind : ORDERS.toCharArray()) {
            Due.fails("15: a lone one is missing, " + kind, UNSUPPORTED, () -> y.widthOf(kind));
        }
        y.remove(2);
        Due.is("15: it is gone", 1, () -> y.widthOf('c'));
        y.vertex(1);
        Due.fails("15: another is missing", UNSUPPORTED, () -> y.widthOf('c'));
        Due.is("13: until it is put", 3, () -> y.place(3));
        Due.is("15: none is missing", 1, () -> y.widthOf('c'));
    }

    // ---- clauses

    private static void clauses() {
        for (int told = 0; told < 64; told++) {
            clausesTogether(Due.hall(3, 0, 1), told);
        }
    }

    private static void clausesTogether(Bramblehall x, int told) {
        for (int i = 0; i < 6; i++) {
            x.clause(CLAUSES.charAt(i), (told >> i & 1) != 0);
        }
        int count = 0;
        int best = -1;
        for (int set = 0; set < 8; set++) {
            if ((told & ~keptBy(set)) == 0) {
                count++;
                best = best < 0 || Integer.bitCount(set) < Integer.bitCount(best) ? set : best;
            }
        }
        Due.is("39: clauses " + told, count, () -> x.sets());
        if (best < 0) {
            Due.fails("40: clauses " + told, NONE, () -> x.bestSet());
        } else {
            Due.is("40: clauses " + told, best, () -> x.bestSet());
        }
    }

    /** Of 0 beside 1, and 2 alone: the clauses, as bits in their order, that each set keeps. */
    private static int keptBy(int set) {
        boolean both = (set & 3) == 3;
        boolean one = (set & 3) != 0;
        boolean lone = (set & 4) != 0;
        return (both ? 0 : 1) | (one && lone ? 0 : 2) | (one && lone ? 4 : 0) | (one ? 8 : 0)
                | (one && lone ? 0 : 16) | (both ? 0 : 32);
    }

    // ---- calls

    /** The 512th call answers as the first one does. */
    private static void calls() {
        Bramblehall x = Due.petersen();
        for (int call = 26; call <= 512; call++) {
            Due.is("call " + call, 4, () -> x.width('t'));
        }
        Bramblehall y = Due.hall(10);
        for (int call = 11; call <= 511; call++) {
            boolean is = call % 2 == 0;
            Due.is("call " + call, call > 11 && !is, () -> y.edge(9, 0, is));
        }
        Due.is("call 512", 0, () -> y.edges());
    }
}
