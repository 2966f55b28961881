/** Promises 34 to 37: minors and classes. */
public final class MinorsTest {
    private static final Class<?> INDEX = IndexOutOfBoundsException.class;
    private static final Class<?> ARGUMENT = IllegalArgumentException.class;
    private static final Class<?> NONE = java.util.NoSuchElementException.class;
    private static final String MINORS = "345bo";
    private static final String CLASSES = "fsop";

    public static void main(String[] args) {
        hasMinor();
        models();
        sides();
        wrongModels();
        classes();
        wrongKinds();
        afterChanges();
        Due.end();
    }

    private static void has(String name, Bramblehall x, boolean... due) {
        for (int i = 0; i < MINORS.length(); i++) {
            char kind = MINORS.charAt(i);
            Due.is("34: " + kind + " in " + name, due[i], () -> x.hasMinor(kind));
        }
    }

    private static void hasMinor() {
        has("nothing", new Bramblehall(), false, false, false, false, false);
        has("a path", Due.path(10), false, false, false, false, false);
        has("a ring", Due.ring(10), true, false, false, false, false);
        has("a clique of 4", Due.clique(4), true, true, false, false, false);
        has("a clique of 5", Due.clique(5), true, true, true, false, true);
        has("a clique of 6", Due.clique(6), true, true, true, true, true);
        has("two by three", Due.twoSides(2, 3), true, false, false, false, true);
        has("three by three", Due.twoSides(3, 3), true, true, false, true, true);
        has("a grid", Due.grid(3, 3), true, true, false, false, true);
        has("Petersen's graph", Due.petersen(), true, true, true, true, true);
        has("two rings that share a vertex", Due.hall(5, 0, 1, 1, 2, 2, 0, 2, 3, 3, 4, 4, 2),
                true, false, false, false, false);
    }

    private static void modelIs(String name, Bramblehall x, char kind, int... due) {
        for (int i = 0; i < due.length; i++) {
            int index = i;
            Due.is("35: " + kind + " in " + name + " at " + i, due[i], () -> x.model(kind, index));
        }
        Due.fails("35: behind the last " + kind + " in " + name, INDEX, () -> x.model(kind, due.length));
        Due.fails("35: ahead of the first " + kind + " in " + name, INDEX, () -> x.model(kind, -1));
    }

    private static void models() {
        modelIs("a ring", Due.ring(6), '3', 1, 2, 60);
        modelIs("a ring from 3 on", Due.hall(6, 3, 4, 4, 5, 5, 3), '3', 8, 16, 32);
        modelIs("a clique", Due.clique(10), '5', 1, 2, 4, 8, 16);
        modelIs("a clique", Due.clique(10), 'b', 1, 2, 4, 8, 16, 32);
        modelIs("a clique", Due.clique(10), 'o', 1, 2, 4, 8, 16);
        modelIs("two by three", Due.twoSides(2, 3), 'o', 1, 2, 4, 8, 16);
        modelIs("three by two", Due.twoSides(3, 2), 'o', 8, 16, 1, 2, 4);
        modelIs("three by three", Due.twoSides(3, 3), 'o', 1, 2, 8, 16, 32);
        modelIs("three by three", Due.twoSides(3, 3), '4', 1, 8, 18, 36);
        modelIs("three by four", Due.twoSides(3, 4), 'b', 1, 2, 4, 8, 16, 32);
        modelIs("a wheel", Due.hall(5, 0, 1, 1, 2, 2, 3, 3, 0, 4, 0, 4, 1, 4, 2, 4, 3), '4', 1, 2, 12, 16);
    }

    /** However two sides are told apart, that of two comes first, and of two like ones that with the lesser set. */
    private static void sides() {
        for (int first = 1; first < 63; first++) {
            Bramblehall x = Due.hall(6);
            for (int v = 0; v < 6; v++) {
                for (int w = 0; w < v; w++) {
                    x.edge(v, w, (first >> v & 1) != (first >> w & 1));
                }
            }
            if (Integer.bitCount(first) == 3 && (first & 1) != 0) {
                modelIs("sides " + first, x, 'b', members(first, 63 & ~first));
            }
            Bramblehall five = Due.hall(5);
            for (int v = 0; v < 5; v++) {
                for (int w = 0; w < v; w++) {
                    five.edge(v, w, (first >> v & 1) != (first >> w & 1));
                }
            }
            if (first < 31 && Integer.bitCount(first) == 2) {
                modelIs("sides " + first, five, 'o', members(first, 31 & ~first));
            }
        }
    }

    private static int[] members(int first, int second) {
        int[] found = new int[Integer.bitCount(first) + Integer.bitCount(second)];
        int count = 0;
        for (int rest = first; rest != 0; rest &= rest - 1) {
            found[count] = rest & -rest;
            count++;
        }
        for (int rest = second; rest != 0; rest &= rest - 1) {
            found[count] = rest & -rest;
            count++;
        }
        return found;
    }

    private static void wrongModels() {
        Bramblehall ring = Due.ring(5);
        Due.fails("35: not this minor", NONE, () -> ring.model('4', 0));
        Due.fails("35: not this minor, looked at ahead of the index", NONE, () -> ring.model('4', 99));
        Due.fails("35: no such kind, first of all", ARGUMENT, () -> ring.model('6', 99));
        Due.fails("35: far off", INDEX, () -> ring.model('3', Integer.MAX_VALUE));
        Due.fails("35: nothing", NONE, () -> new Bramblehall().model('3', 0));
    }

    private static void inClasses(String name, Bramblehall x, int... fewest) {
        for (int i = 0; i < CLASSES.length(); i++) {
            char kind = CLASSES.charAt(i);
            boolean is = fewest[i] == 0;
            Due.is("36: " + kind + " of " + name, is, () -> x.isIn(kind));
            Due.is("37: " + kind + " of " + name, fewest[i], () -> x.apex(kind));
        }
    }

    private static void classes() {
        inClasses("nothing", new Bramblehall(), 0, 0, 0, 0);
        inClasses("a tree", Due.path(10), 0, 0, 0, 0);
        inClasses("a ring", Due.ring(10), 1, 0, 0, 0);
        inClasses("two rings", Due.hall(6, 0, 1, 1, 2, 2, 0, 3, 4, 4, 5, 5, 3), 2, 0, 0, 0);
        inClasses("two by three", Due.twoSides(2, 3), 1, 0, 1, 0);
        inClasses("a clique of 4", Due.clique(4), 2, 1, 1, 0);
        inClasses("a clique of 5", Due.clique(5), 3, 2, 2, 1);
        inClasses("a clique of 10", Due.clique(10), 8, 7, 7, 6);
        inClasses("three by three", Due.twoSides(3, 3), 2, 1, 2, 1);
        inClasses("four by four", Due.twoSides(4, 4), 3, 2, 3, 2);
        inClasses("five by five", Due.twoSides(5, 5), 4, 3, 4, 3);
        inClasses("a grid", Due.grid(3, 3), 2, 1, 1, 0);
        inClasses("Petersen's graph", Due.petersen(), 3, 2, 3, 2);
    }

    private static void wrongKinds() {
        Bramblehall x = Due.clique(4);
        for (char kind : new char[] {'2', '6', 'f', 'B', 0, 65535}) {
            Due.fails("34: " + (int) kind, ARGUMENT, () -> x.hasMinor(kind));
            Due.fails("35: " + (int) kind, ARGUMENT, () -> x.model(kind, 0));
        }
        for (char kind : new char[] {'3', 'b', 'F', 'q', 0, 65535}) {
            Due.fails("36: " + (int) kind, ARGUMENT, () -> x.isIn(kind));
            Due.fails("37: " + (int) kind, ARGUMENT, () -> x.apex(kind));
        }
    }

    private static void afterChanges() {
        Bramblehall x = Due.clique(4);
        Due.is("34: a clique", true, () -> x.hasMinor('4'));
        Due.is("37: a clique", 1, () -> x.apex('s'));
        x.edge(0, 1, false);
        Due.is("34: without an edge", false, () -> x.hasMinor('4'));
        Due.is("35: another kind in between", 4, () -> x.model('3', 1));
        Due.is("34: still", false, () -> x.hasMinor('4'));
        x.vertex(1);
        x.edge(4, 0, true);
        x.edge(4, 1, true);
        Due.is("34: by way of the new one", true, () -> x.hasMinor('4'));
        Due.is("35: by way of the new one", 18, () -> x.model('4', 3));
        Due.is("37: in between", 2, () -> x.apex('f'));
        Due.is("35: as before", 8, () -> x.model('4', 2));
        Due.is("36: now it has it", false, () -> x.isIn('s'));
        x.contract(4, 0);
        Due.is("35: contracted", 2, () -> x.model('4', 1));
    }
}
