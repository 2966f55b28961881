import java.util.Random;

/** Calls that are refused: what they throw, what comes first where several apply, and that they change nothing. */
public final class RefusedTest {
    private static final Class<?> INDEX = IndexOutOfBoundsException.class;
    private static final Class<?> ARGUMENT = IllegalArgumentException.class;
    private static final Class<?> STATE = IllegalStateException.class;
    private static final Class<?> NONE = java.util.NoSuchElementException.class;
    private static final Class<?> UNSUPPORTED = UnsupportedOperationException.class;
    private static final Class<?> ARITHMETIC = ArithmeticException.class;
    private static final int[] WRONG_VERTICES = {Integer.MIN_VALUE, -32, -1, 2, 6, 10, 32, 33, Integer.MAX_VALUE};
    private static final int[] WRONG_SETS = {Integer.MIN_VALUE, -1, 4, 5, 64, 1024, 65537, Integer.MAX_VALUE};
    private static final int[] WRONG_COUNTS = {Integer.MIN_VALUE, -1, 11, 256, Integer.MAX_VALUE};
    /** All pairs of 0, 1, 3, 4 and 5. */
    private static final int[] TEN_PAIRS = {3, 9, 17, 33, 10, 18, 34, 24, 40, 48};
    private static final char[] WRONG_LETTERS = {0, ' ', 'T', 'a', 'x', '2', 256 + 't', 512 + '3', 65535};

    /** A hall in some state, made anew for each call. */
    private interface Made {
        Bramblehall hall();
    }

    private interface Call {
        Object on(Bramblehall x);
    }

    private final String name;
    private final Made made;
    private final String due;

    private RefusedTest(String name, Made made) {
        this.name = name;
        this.made = made;
        this.due = Look.at(made.hall(), 6);
    }

    public static void main(String[] args) {
        new RefusedTest("some", () -> filled(4, 5, 3, 2)).wrongArguments();
        new RefusedTest("full", () -> filled(6, 20, 60, 10)).wrongArguments();
        new RefusedTest("none told", () -> filled(0, 0, 0, 0)).wrongArguments();
        new RefusedTest("full", () -> filled(6, 20, 60, 10)).full();
        new RefusedTest("some", () -> filled(4, 5, 3, 2)).some();
        new RefusedTest("none told", () -> filled(0, 0, 0, 0)).noneTold();
        new RefusedTest("nothing", Bramblehall::new).nothing();
        new RefusedTest("one vertex", () -> Due.hall(1)).oneVertex();
        new RefusedTest("ten told", RefusedTest::tenTold).eleventh();
        new RefusedTest("ten told, but one left", RefusedTest::oneOfTen).eleventhOfOne();
        Random random = new Random(17);
        for (int run = 0; run < 400; run++) {
            withAndWithout(run, random);
        }
        Due.end();
    }

    /**
     * A ring of 0, 1, 3, 4 and 5 with two chords, from which 2 has gone; 0 and 4, and 1 and 5, are in one part.
     */
    private static Bramblehall filled(int placed, int bags, int sets, int hyperedges) {
        Bramblehall x = Due.hall(6, 0, 1, 1, 2, 2, 3, 3, 4, 4, 5, 5, 0, 1, 5, 0, 3);
        x.contract(2, 1);
        x.join(0, 4);
        x.join(1, 5);
        x.clause('v', true);
        int[] order = {5, 3, 0, 4, 1};
        for (int i = 0; i < placed && i < order.length; i++) {
            x.place(order[i]);
        }
        for (int i = 0; i < bags; i++) {
            x.bag(i % 3 == 0 ? 59 : 50 + i % 2, i - 1 - (i > 4 ? i % 3 : 0));
        }
        for (int set = 1, told = 0; set < 64 && told < sets; set++) {
            if ((set & 4) == 0) {
                x.put(set);
                told++;
            }
        }
        for (int i = 0; i < hyperedges; i++) {
            x.hyperedge(TEN_PAIRS[i]);
        }
        return x;
    }

    private static Bramblehall tenTold() {
        Bramblehall x = Due.grid(2, 5);
        x.join(0, 9);
        x.join(3, 9);
        x.place(8);
        x.decompose();
        x.put(513);
        x.hyperedge(7);
        return x;
    }

    private static Bramblehall oneOfTen() {
        Bramblehall x = Due.clique(10);
        for (int v = 0; v < 9; v++) {
            x.remove(v == 4 ? 9 : v);
        }
        return x;
    }

    /** The call throws just this, and what the hall answers then is as if it had not been made. */
    private void refused(String what, Class<?> want, Call call) {
        Bramblehall x = made.hall();
        Due.fails(what + ", " + name, want, () -> call.on(x));
        Due.say("after " + what + ", " + name, due, Look.at(x, 6));
    }

    // ---- wrong arguments, whatever the state

    private void wrongArguments() {
        for (int weight : new int[] {-1, 100, Integer.MIN_VALUE, Integer.MAX_VALUE, 256, -256}) {
            refused("2: " + weight, ARGUMENT, x -> x.vertex(weight));
        }
        for (int v : WRONG_VERTICES) {
            wrongVertex(v);
        }
        for (int v : new int[] {0, 1, 3, 5}) {
            refused("3: " + v + " twice", ARGUMENT, x -> x.edge(v, v, true));
            refused("3: " + v + " twice, none", ARGUMENT, x -> x.edge(v, v, false));
            refused("5: " + v + " twice", ARGUMENT, x -> x.contract(v, v));
            refused("53: " + v + " twice", UNSUPPORTED, x -> x.join(v, v));
        }
        for (int set : WRONG_SETS) {
            wrongSet(set);
        }
        refused("29: none", ARGUMENT, x -> x.put(0));
        refused("49: none", ARGUMENT, x -> x.hyperedge(0));
        for (int k : WRONG_COUNTS) {
            wrongCount(k);
        }
        for (char letter : WRONG_LETTERS) {
            wrongLetter(letter);
        }
        refused("12: below 0", INDEX, x -> x.orderAt('t', -1));
        refused("12: behind the last", INDEX, x -> x.orderAt('b', 5));
        refused("35: below 0", INDEX, x -> x.model('3', -1));
        refused("35: behind the last", INDEX, x -> x.model('4', 4));
        refused("35: none", NONE, x -> x.model('b', 0));
        refused("35: none, and no such set", NONE, x -> x.model('b', 6));
        refused("23: below 0", INDEX, x -> x.bagAt(-1));
        refused("24: below 0", INDEX, x -> x.above(-1));
        refused("23: behind the last", INDEX, x -> x.bagAt(20));
        refused("24: behind the last", INDEX, x -> x.above(20));
        refused("28: more than the searchers", ARGUMENT, x -> x.haven(1, 3));
        refused("28: more, though they win", ARGUMENT, x -> x.haven(4, 59));
        refused("28: they win", NONE, x -> x.haven(4, 3));
        refused("46: too few", NONE, x -> x.kernel(2));
        refused("47: too few", NONE, x -> x.kernelLeft(2));
        refused("46: none", NONE, x -> x.kernel(0));
    }

    private void wrongVertex(int v) {
        refused("3: " + v + ", 0", INDEX, x -> x.edge(v, 0, true));
        refused("3: 0, " + v, INDEX, x -> x.edge(0, v, true));
        refused("3: 1, " + v + ", none", INDEX, x -> x.edge(1, v, false));
        refused("3: twice " + v, INDEX, x -> x.edge(v, v, true));
        refused("4: " + v, INDEX, x -> x.remove(v));
        refused("5: " + v + ", 1", INDEX, x -> x.contract(v, 1));
        refused("5: 1, " + v, INDEX, x -> x.contract(1, v));
        refused("5: twice " + v, INDEX, x -> x.contract(v, v));
        refused("8: " + v, INDEX, x -> x.neighbours(v));
        refused("10: " + v, INDEX, x -> x.weight(v));
        refused("13: " + v, INDEX, x -> x.place(v));
        refused("53: " + v + ", 3", INDEX, x -> x.join(v, 3));
        refused("53: 3, " + v, INDEX, x -> x.join(3, v));
        refused("53: twice " + v, INDEX, x -> x.join(v, v));
    }

    private void wrongSet(int set) {
        refused("18: " + set + " below the first", ARGUMENT, x -> x.bag(set, 0));
        refused("18: " + set + " as the first", ARGUMENT, x -> x.bag(set, -1));
        refused("18: " + set + " below none", ARGUMENT, x -> x.bag(set, 21));
        refused("28: ten on " + set, ARGUMENT, x -> x.haven(10, set));
        refused("28: two on " + set, ARGUMENT, x -> x.haven(2, set));
        refused("29: " + set, ARGUMENT, x -> x.put(set));
        refused("45: " + set, ARGUMENT, x -> x.link(set));
        refused("49: " + set, ARGUMENT, x -> x.hyperedge(set));
    }

    private void wrongCount(int k) {
        refused("26: " + k, ARGUMENT, x -> x.win(k));
        refused("28: " + k, ARGUMENT, x -> x.haven(k, 0));
        refused("28: " + k + " on a vertex that is gone", ARGUMENT, x -> x.haven(k, 4));
        refused("42: " + k, ARGUMENT, x -> x.colourings(k));
        refused("46: " + k, ARGUMENT, x -> x.kernel(k));
        refused("47: " + k, ARGUMENT, x -> x.kernelLeft(k));
        refused("48: " + k, ARGUMENT, x -> x.hasCover(k));
        refused("42: ten", ARGUMENT, x -> x.colourings(10));
    }

    private void wrongLetter(char letter) {
        String what = " letter " + (int) letter;
        refused("11:" + what, ARGUMENT, x -> x.width(letter));
        refused("12:" + what, ARGUMENT, x -> x.orderAt(letter, 0));
        refused("12: no index and" + what, ARGUMENT, x -> x.orderAt(letter, 9));
        refused("15:" + what, ARGUMENT, x -> x.widthOf(letter));
        refused("34:" + what, ARGUMENT, x -> x.hasMinor(letter));
        refused("35:" + what, ARGUMENT, x -> x.model(letter, 0));
        refused("35: no set and" + what, ARGUMENT, x -> x.model(letter, -1));
        refused("36:" + what, ARGUMENT, x -> x.isIn(letter));
        refused("37:" + what, ARGUMENT, x -> x.apex(letter));
        refused("38:" + what, ARGUMENT, x -> x.clause(letter, true));
        refused("38: no" + what, ARGUMENT, x -> x.clause(letter, false));
    }

    // ---- what the state refuses

    private void full() {
        refused("13: a second time", UNSUPPORTED, x -> x.place(4));
        refused("18: twenty-first", STATE, x -> x.bag(0, 19));
        refused("18: a second first one", INDEX, x -> x.bag(0, -1));
        refused("18: none such, twenty there", INDEX, x -> x.bag(0, 20));
        refused("18: below -1, twenty there", INDEX, x -> x.bag(0, -2));
        refused("18: another vertex, twenty there", ARGUMENT, x -> x.bag(4, 0));
        refused("18: another vertex, and none such", ARGUMENT, x -> x.bag(4, 20));
        refused("25: no decomposition", UNSUPPORTED, x -> x.nice());
        refused("29: the first again", UNSUPPORTED, x -> x.put(1));
        refused("29: the last again", UNSUPPORTED, x -> x.put(59));
        refused("49: an eleventh", STATE, x -> x.hyperedge(11));
        refused("49: empty, ten there", ARGUMENT, x -> x.hyperedge(0));
        refused("49: another vertex, ten there", ARGUMENT, x -> x.hyperedge(15));
        refused("53: in one part", UNSUPPORTED, x -> x.join(4, 0));
        RefusedTest sixty = new RefusedTest("sixty", RefusedTest::sixty);
        sixty.refused("29: a sixty-first", STATE, x -> x.put(61));
        sixty.refused("29: there, and sixty", UNSUPPORTED, x -> x.put(60));
        sixty.refused("29: empty, sixty there", ARGUMENT, x -> x.put(0));
        sixty.refused("29: another vertex, sixty there", ARGUMENT, x -> x.put(64));
    }

    private static Bramblehall sixty() {
        Bramblehall x = Due.ring(6);
        for (int set = 1; set <= 60; set++) {
            x.put(set);
        }
        return x;
    }

    private void some() {
        refused("13: a second time", UNSUPPORTED, x -> x.place(5));
        refused("15: one is missing", UNSUPPORTED, x -> x.widthOf('t'));
        refused("15: one is missing, no such kind", ARGUMENT, x -> x.widthOf('d'));
        refused("18: none such", INDEX, x -> x.bag(1, 5));
        refused("18: a second first one", INDEX, x -> x.bag(1, -1));
        refused("18: below -1", INDEX, x -> x.bag(1, Integer.MIN_VALUE));
        refused("23: none such", INDEX, x -> x.bagAt(5));
        refused("24: none such", INDEX, x -> x.above(5));
        refused("25: no decomposition", UNSUPPORTED, x -> x.nice());
        refused("29: again", UNSUPPORTED, x -> x.put(2));
        refused("53: in one part", UNSUPPORTED, x -> x.join(5, 1));
        RefusedTest apart = new RefusedTest("in two parts", () -> Due.hall(5, 0, 1, 2, 3));
        apart.refused("45: in two parts", NONE, x -> x.link(5));
        apart.refused("45: in two parts, another vertex", ARGUMENT, x -> x.link(5 | 64));
        RefusedTest uncovered = new RefusedTest("a vertex in no hyperedge", RefusedTest::uncovered);
        uncovered.refused("52: in none", NONE, x -> x.cover());
        RefusedTest clauses = new RefusedTest("no set", RefusedTest::noSet);
        clauses.refused("40: none", NONE, x -> x.bestSet());
    }

    private static Bramblehall uncovered() {
        Bramblehall x = Due.path(4);
        x.decompose();
        x.hyperedge(7);
        return x;
    }

    private static Bramblehall noSet() {
        Bramblehall x = Due.path(4);
        x.clause('d', true);
        x.clause('k', true);
        x.clause('i', true);
        return x;
    }

    private void noneTold() {
        refused("15: all are missing", UNSUPPORTED, x -> x.widthOf('r'));
        refused("18: below none", INDEX, x -> x.bag(1, 0));
        refused("18: below -1", INDEX, x -> x.bag(1, -2));
        refused("22: no bags", NONE, x -> x.bagWidth());
        refused("23: no bags", INDEX, x -> x.bagAt(0));
        refused("24: no bags", INDEX, x -> x.above(0));
        refused("25: no bags, and no decomposition", NONE, x -> x.nice());
    }

    private void nothing() {
        refused("12: no vertices", INDEX, x -> x.orderAt('t', 0));
        refused("22: no bags", NONE, x -> x.bagWidth());
        refused("25: no bags, and a decomposition", NONE, x -> x.nice());
        refused("28: none win", NONE, x -> x.haven(0, 0));
        refused("28: eleven", ARGUMENT, x -> x.haven(11, 0));
        refused("28: on 0", ARGUMENT, x -> x.haven(0, 1));
        refused("33: no vertices", NONE, x -> x.takeHaven());
        refused("44: no vertices", NONE, x -> x.longest());
        refused("57: no vertices", ARITHMETIC, x -> x.density());
        refused("58: no vertices", ARITHMETIC, x -> x.meanDegree());
        for (int v = 0; v < 10; v++) {
            int none = v;
            refused("4: " + v, INDEX, x -> x.remove(none));
            refused("3: " + v, INDEX, x -> x.edge(none, none, true));
            refused("5: " + v, INDEX, x -> x.contract(none, none));
            refused("53: " + v, INDEX, x -> x.join(none, none));
        }
    }

    private void oneVertex() {
        refused("57: one vertex", ARITHMETIC, x -> x.density());
        refused("53: itself", UNSUPPORTED, x -> x.join(0, 0));
        refused("28: on itself", ARGUMENT, x -> x.haven(0, 1));
        refused("28: one wins", NONE, x -> x.haven(1, 1));
    }

    private void eleventh() {
        refused("2: an eleventh", STATE, x -> x.vertex(0));
        refused("2: an eleventh of 99", STATE, x -> x.vertex(99));
        refused("2: an eleventh of 100", ARGUMENT, x -> x.vertex(100));
        refused("2: an eleventh of -1", ARGUMENT, x -> x.vertex(-1));
        refused("56: more than seven", UNSUPPORTED, x -> x.twinWidth());
        refused("4: none such", INDEX, x -> x.remove(10));
        refused("8: none such", INDEX, x -> x.neighbours(10));
    }

    private void eleventhOfOne() {
        refused("2: an eleventh", STATE, x -> x.vertex(0));
        refused("2: an eleventh of 100", ARGUMENT, x -> x.vertex(100));
        refused("4: gone", INDEX, x -> x.remove(9));
        refused("13: gone", INDEX, x -> x.place(9));
        refused("49: gone", ARGUMENT, x -> x.hyperedge(512));
    }

    // ---- a run of calls, and the same run without those that are refused

    private static void withAndWithout(int run, Random random) {
        Bramblehall all = new Bramblehall();
        Bramblehall taken = new Bramblehall();
        int vertices = random.nextInt(7);
        for (int v = 0; v < vertices; v++) {
            all.vertex(v);
            taken.vertex(v);
        }
        int refused = 0;
        for (int i = 0; i < 150; i++) {
            Call call = Calls.any(random, vertices)::on;
            String answer = Due.answer(() -> call.on(all));
            if (answer.startsWith("throws")) {
                refused++;
            } else {
                Due.say("run " + run + ", call " + i, Due.answer(() -> call.on(taken)), answer);
            }
        }
        Due.say("run " + run + " without " + refused + " calls", Look.at(taken, vertices), Look.at(all, vertices));
    }
}
