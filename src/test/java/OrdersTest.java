/** Promises 11 to 17: widths and orders. */
public final class OrdersTest {
    private static final Class<?> INDEX = IndexOutOfBoundsException.class;
    private static final Class<?> ARGUMENT = IllegalArgumentException.class;
    private static final Class<?> UNSUPPORTED = UnsupportedOperationException.class;
    private static final String ALL = "tpcbrdgq";
    private static final String ORDERED = "tpcbr";

    public static void main(String[] args) {
        withoutEdges();
        widths();
        bestOrders();
        toldOrder();
        widthsOfToldOrder();
        bounds();
        ties();
        afterChanges();
        turnedPaths();
        Due.end();
    }

    private static void widthsAre(String name, Bramblehall x, int... due) {
        for (int i = 0; i < ALL.length(); i++) {
            char kind = ALL.charAt(i);
            Due.is("11: " + kind + " of " + name, due[i], () -> x.width(kind));
        }
    }

    private static void withoutEdges() {
        widthsAre("nothing", new Bramblehall(), 0, 0, 0, 0, 0, 0, 0, 0);
        widthsAre("one vertex", Due.hall(1), 0, 0, 0, 0, 0, 1, 0, 1);
        widthsAre("ten lone vertices", Due.hall(10), 0, 0, 0, 0, 0, 1, 0, 1);
        for (char kind : new char[] {'x', 'T', 'e', 0, ' ', 255, 65535, '3'}) {
            Due.fails("11: kind " + (int) kind, ARGUMENT, () -> new Bramblehall().width(kind));
        }
    }

    // t, p, c, b, r, d, g, q
    private static void widths() {
        widthsAre("an edge", Due.hall(2, 0, 1), 1, 1, 1, 1, 1, 2, 1, 2);
        widthsAre("a path of 8", Due.path(8), 1, 1, 1, 1, 1, 4, 1, 2);
        widthsAre("a star of 7", Due.twoSides(1, 6), 1, 1, 3, 3, 1, 2, 1, 2);
        widthsAre("a ring of 9", Due.ring(9), 2, 2, 2, 2, 2, 5, 2, 2);
        widthsAre("a clique of 10", Due.clique(10), 9, 9, 25, 9, 1, 10, 9, 10);
        widthsAre("three by three", Due.twoSides(3, 3), 3, 3, 5, 4, 1, 4, 3, 2);
        widthsAre("Petersen's graph", Due.petersen(), 4, 5, 6, 5, 4, 6, 3, 2);
        widthsAre("a grid of 9", Due.grid(3, 3), 3, 3, 4, 3, 3, 5, 2, 2);
        Bramblehall spider = Due.hall(7, 0, 1, 1, 2, 0, 3, 3, 4, 0, 5, 5, 6);
        widthsAre("a spider", spider, 1, 2, 2, 2, 2, 3, 1, 2);
    }

    private static void orderIs(String name, Bramblehall x, char kind, int... due) {
        for (int i = 0; i < due.length; i++) {
            int index = i;
            Due.is("12: " + kind + " of " + name + " at " + i, due[i], () -> x.orderAt(kind, index));
        }
        Due.fails("12: behind the last of " + name, INDEX, () -> x.orderAt(kind, due.length));
        Due.fails("12: ahead of the first of " + name, INDEX, () -> x.orderAt(kind, -1));
    }

    private static void bestOrders() {
        for (int i = 0; i < ORDERED.length(); i++) {
            orderIs("three lone vertices", Due.hall(3), ORDERED.charAt(i), 0, 1, 2);
            orderIs("nothing", new Bramblehall(), ORDERED.charAt(i));
        }
        Bramblehall star = Due.hall(4, 0, 1, 0, 2, 0, 3);
        orderIs("a star", star, 't', 1, 2, 0, 3);
        orderIs("a star", star, 'p', 0, 1, 2, 3);
        orderIs("a star", star, 'c', 1, 0, 2, 3);
        orderIs("a star", star, 'b', 1, 0, 2, 3);
        orderIs("a star", star, 'r', 0, 1, 2, 3);
        Bramblehall turned = Due.hall(5, 3, 0, 0, 4, 4, 1, 1, 2);
        orderIs("a turned path", turned, 't', 2, 1, 3, 0, 4);
        orderIs("a turned path", turned, 'p', 0, 3, 4, 1, 2);
        orderIs("a turned path", turned, 'c', 2, 1, 4, 0, 3);
        orderIs("a turned path", turned, 'b', 2, 1, 4, 0, 3);
        Bramblehall gap = Due.hall(4, 0, 2, 2, 3);
        gap.remove(1);
        orderIs("a path with a gap", gap, 'c', 0, 2, 3);
        Bramblehall pairs = Due.hall(6, 0, 5, 1, 4, 2, 3);
        orderIs("three pairs", pairs, 'b', 0, 5, 1, 4, 2, 3);
        orderIs("three pairs", pairs, 't', 0, 1, 2, 3, 4, 5);
        for (char kind : new char[] {'d', 'g', 'q', 'x', 0}) {
            Due.fails("12: kind " + (int) kind, ARGUMENT, () -> star.orderAt(kind, 0));
            Due.fails("12: the kind is looked at first", ARGUMENT, () -> star.orderAt(kind, 99));
        }
        Due.fails("12: far off", INDEX, () -> star.orderAt('t', Integer.MIN_VALUE));
    }

    private static void toldOrder() {
        Bramblehall x = Due.hall(4, 0, 1, 1, 2, 2, 3);
        Due.is("13: first", 1, () -> x.place(2));
        Due.is("13: second", 2, () -> x.place(0));
        Due.fails("13: again", UNSUPPORTED, () -> x.place(2));
        Due.fails("13: no such vertex", INDEX, () -> x.place(4));
        Due.fails("13: below 0", INDEX, () -> x.place(-1));
        Due.is("14: two", 2, () -> x.clearOrder());
        Due.is("14: none", 0, () -> x.clearOrder());
        Due.is("13: first again", 1, () -> x.place(2));
        x.place(1);
        x.place(3);
        x.remove(1);
        Due.fails("13: gone", INDEX, () -> x.place(1));
        Due.is("14: one that goes leaves the order", 2, () -> x.clearOrder());
        x.place(3);
        x.place(2);
        x.contract(3, 0);
        Due.is("14: one that is contracted leaves it, too", 1, () -> x.clearOrder());
    }

    private static void place(Bramblehall x, int... order) {
        x.clearOrder();
        for (int v : order) {
            x.place(v);
        }
    }

    private static void toldWidthsAre(String name, Bramblehall x, int... due) {
        for (int i = 0; i < ORDERED.length(); i++) {
            char kind = ORDERED.charAt(i);
            Due.is("15: " + kind + " of " + name, due[i], () -> x.widthOf(kind));
        }
    }

    private static void widthsOfToldOrder() {
        Bramblehall x = Due.hall(5, 0, 1, 0, 2, 0, 3, 0, 4);
        Due.fails("15: none is told", UNSUPPORTED, () -> x.widthOf('t'));
        Due.fails("15: no such kind, and none is told", ARGUMENT, () -> x.widthOf('d'));
        place(x, 0, 1, 2, 3, 4);
        toldWidthsAre("a star from within", x, 4, 1, 4, 4, 1);
        place(x, 1, 2, 3, 4, 0);
        toldWidthsAre("a star from outside", x, 1, 4, 4, 4, 1);
        place(x, 1, 2, 0, 3, 4);
        toldWidthsAre("a star half and half", x, 2, 2, 2, 2, 1);
        x.vertex(1);
        Due.fails("15: the new one is missing", UNSUPPORTED, () -> x.widthOf('c'));
        x.remove(5);
        Due.is("15: none is missing", 2, () -> x.widthOf('c'));
        Bramblehall ring = Due.ring(6);
        place(ring, 0, 2, 4, 1, 3, 5);
        toldWidthsAre("a ring by twos", ring, 2, 3, 6, 5, 2);
        place(ring, 0, 3, 1, 4, 2, 5);
        toldWidthsAre("a ring by threes", ring, 2, 4, 4, 5, 3);
        toldWidthsAre("nothing", new Bramblehall(), 0, 0, 0, 0, 0);
        Due.fails("15: kind x of nothing", ARGUMENT, () -> new Bramblehall().widthOf('x'));
    }

    private static void bounds() {
        Due.is("16: nothing", 0, () -> new Bramblehall().lower());
        Due.is("17: nothing", 0, () -> new Bramblehall().upper());
        Due.is("16: no edge", 0, () -> Due.hall(10).lower());
        Due.is("17: no edge", 0, () -> Due.hall(10).upper());
        Due.is("16: a clique", 9, () -> Due.clique(10).lower());
        Due.is("17: a clique", 9, () -> Due.clique(10).upper());
        Due.is("16: a path", 1, () -> Due.path(10).lower());
        Due.is("17: a path", 1, () -> Due.path(10).upper());
        Due.is("16: Petersen's graph", 4, () -> Due.petersen().lower());
        Due.is("17: Petersen's graph", 4, () -> Due.petersen().upper());
        Due.is("16: three by three", 3, () -> Due.twoSides(3, 3).lower());
        Due.is("17: three by three", 3, () -> Due.twoSides(3, 3).upper());
        Due.is("16: a grid", 3, () -> Due.grid(3, 3).lower());
        Due.is("17: a grid", 3, () -> Due.grid(3, 3).upper());
        Bramblehall lone = Due.clique(4);
        lone.vertex(1);
        Due.is("16: lone ones are passed over", 3, () -> lone.lower());
        Due.is("16: and nothing has changed", 6, () -> lone.edges());
        Due.is("17: and nothing has changed", 3, () -> lone.upper());
        Due.is("17: five vertices still", 5, () -> lone.size());
    }

    /** Graphs in which another choice among several would tell another bound. */
    private static void ties() {
        Bramblehall vertex = Due.hall(10, 0, 1, 0, 3, 0, 6, 0, 7, 0, 9, 1, 3, 1, 4, 1, 5, 1, 9, 2, 3, 2, 4, 2, 7, 2, 9,
                3, 5, 3, 6, 3, 8, 4, 5, 4, 6, 4, 7, 4, 8, 4, 9, 5, 7, 5, 8, 6, 7, 6, 8, 7, 8, 7, 9, 8, 9);
        Due.is("16: the lowest vertex, not the last", 5, () -> vertex.lower());
        Bramblehall into = Due.hall(8, 0, 4, 0, 5, 0, 7, 1, 2, 1, 6, 1, 7, 2, 3, 2, 4, 2, 5, 2, 6, 3, 4, 3, 5, 3, 6,
                4, 7);
        Due.is("16: the lowest neighbour, not the last", 4, () -> into.lower());
        Bramblehall least = Due.hall(9, 0, 1, 0, 3, 0, 5, 0, 6, 0, 8, 1, 3, 1, 4, 1, 5, 1, 6, 1, 8, 2, 3, 2, 7, 3, 4,
                3, 5, 3, 6, 3, 8, 4, 5, 4, 6, 5, 7, 5, 8, 6, 8, 7, 8);
        Due.is("16: the neighbour of the least degree, not the lowest", 5, () -> least.lower());
        Bramblehall few = Due.hall(10, 0, 1, 0, 2, 0, 5, 0, 6, 0, 8, 0, 9, 1, 2, 1, 4, 1, 9, 2, 4, 2, 5, 2, 7, 3, 4,
                3, 5, 3, 6, 3, 8, 4, 5, 4, 9, 5, 6, 5, 9, 6, 7, 6, 9, 7, 8, 8, 9);
        Due.is("17: then the fewest neighbours, not the lowest", 6, () -> few.upper());
        Bramblehall lack = Due.hall(10, 0, 2, 0, 3, 0, 4, 0, 5, 0, 6, 1, 2, 1, 3, 1, 4, 1, 5, 1, 6, 1, 7, 1, 8, 1, 9,
                2, 3, 2, 5, 2, 8, 2, 9, 3, 6, 3, 7, 3, 8, 3, 9, 4, 5, 4, 6, 4, 8, 4, 9, 5, 6, 5, 8, 5, 9, 6, 7, 6, 8,
                6, 9, 8, 9);
        Due.is("17: the fewest that lack, not with the neighbours", 6, () -> lack.upper());
        Bramblehall degree = Due.hall(10, 0, 1, 0, 2, 0, 3, 0, 4, 0, 5, 0, 6, 0, 7, 0, 9, 1, 2, 1, 3, 1, 4, 1, 6, 1, 7,
                1, 9, 2, 5, 2, 6, 2, 9, 3, 4, 3, 5, 3, 6, 3, 7, 3, 9, 4, 5, 4, 8, 5, 7, 5, 9, 6, 8, 6, 9, 7, 8, 8, 9);
        Due.is("17: the fewest that lack, ahead of the neighbours", 6, () -> degree.upper());
        Bramblehall last = Due.hall(10, 0, 3, 0, 4, 0, 5, 0, 8, 0, 9, 1, 2, 1, 3, 1, 5, 1, 7, 1, 9, 2, 3, 2, 4, 2, 6,
                2, 7, 2, 8, 2, 9, 3, 4, 3, 5, 3, 6, 3, 7, 4, 8, 4, 9, 5, 6, 5, 8, 5, 9, 6, 7, 6, 9, 7, 8);
        Due.is("17: then the lowest, not the last", 5, () -> last.upper());
    }

    private static void afterChanges() {
        Bramblehall x = Due.path(5);
        Due.is("11: path", 1, () -> x.width('t'));
        Due.is("12: path", 0, () -> x.orderAt('b', 0));
        x.edge(4, 0, true);
        Due.is("11: closed", 2, () -> x.width('t'));
        Due.is("11: closed, p", 2, () -> x.width('p'));
        Due.is("12: closed", 4, () -> x.orderAt('b', 2));
        x.contract(4, 0);
        x.contract(3, 0);
        Due.is("11: a triangle", 3, () -> x.width('d'));
        Due.is("12: a triangle", 2, () -> x.orderAt('b', 2));
        x.vertex(1);
        Due.is("12: and one alone", 5, () -> x.orderAt('b', 3));
    }

    /** However a path is numbered, its best order by 'b' and 'c' begins at the lesser end. */
    private static void turnedPaths() {
        int n = 6;
        for (int code = 0; code < 720; code++) {
            int[] path = new int[n];
            int open = (1 << n) - 1;
            int rest = code;
            for (int i = 0; i < n; i++) {
                path[i] = nthOf(open, rest % (n - i));
                open &= ~(1 << path[i]);
                rest /= n - i;
            }
            Bramblehall x = Due.hall(n);
            for (int i = 0; i + 1 < n; i++) {
                x.edge(path[i], path[i + 1], true);
            }
            for (int i = 0; i < n; i++) {
                int index = i;
                int due = path[0] < path[n - 1] ? path[i] : path[n - 1 - i];
                Due.is("12: b of path " + code + " at " + i, due, () -> x.orderAt('b', index));
                Due.is("12: c of path " + code + " at " + i, due, () -> x.orderAt('c', index));
            }
        }
    }

    private static int nthOf(int set, int index) {
        int rest = set;
        for (int i = 0; i < index; i++) {
            rest &= rest - 1;
        }
        return Integer.numberOfTrailingZeros(rest);
    }
}
