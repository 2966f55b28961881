/**
 * Every graph of at most four vertices, and each fifth one of five, against the slow reading of the document. Three
 * arguments tell the number of vertices, the first graph and the step from graph to graph.
 */
public final class EveryTest {
    private static final int CALLS = 512;
    private final int n;
    private final int edges;
    private final Bramblehall hall = new Bramblehall();
    private final Slow slow = new Slow();
    private int made;

    private EveryTest(int n, int edges) {
        this.n = n;
        this.edges = edges;
    }

    public static void main(String[] args) {
        if (args.length == 3) {
            graphs(Integer.parseInt(args[0]), Integer.parseInt(args[1]), Integer.parseInt(args[2]));
        } else {
            for (int n = 0; n <= 4; n++) {
                graphs(n, 0, 1);
            }
            graphs(5, 0, 5);
        }
        Due.end();
    }

    private static void graphs(int n, int first, int step) {
        for (int edges = first; edges < 1 << n * (n - 1) / 2; edges += step) {
            new EveryTest(n, edges).all();
        }
    }

    private void both(String what, Due.Call fast, Due.Call due) {
        made++;
        if (made <= CALLS) {
            Due.say(n + " vertices, graph " + edges + ": " + what, Due.answer(due), Due.answer(fast));
        }
    }

    private void all() {
        int rest = edges;
        for (int v = 0; v < n; v++) {
            int weight = v * 7 % 4;
            both("vertex " + weight, () -> hall.vertex(weight), () -> slow.vertex(weight));
            for (int w = 0; w < v; w++) {
                if ((rest & 1) != 0) {
                    int a = v;
                    int b = w;
                    both("edge", () -> hall.edge(a, b, true), () -> slow.edge(a, b, true));
                }
                rest >>= 1;
            }
        }
        widths();
        bags();
        hunt();
        minors();
        clauses();
        programs();
        twins();
        Due.say(n + " vertices, graph " + edges + ": calls", "true", String.valueOf(made <= CALLS));
    }

    private void widths() {
        both("parts", () -> hall.parts(), () -> slow.parts());
        for (char kind : "tpcbrdgq".toCharArray()) {
            both("width " + kind, () -> hall.width(kind), () -> slow.width(kind));
        }
        for (char kind : "tpcbr".toCharArray()) {
            for (int i = 0; i < n; i++) {
                int index = i;
                both("orderAt " + kind + " " + i, () -> hall.orderAt(kind, index), () -> slow.orderAt(kind, index));
            }
        }
        for (int i = 0; i < n; i++) {
            int v = (i * 2 + edges) % n;
            both("place", () -> hall.place(v), () -> slow.place(v));
        }
        for (char kind : "tpcbr".toCharArray()) {
            both("widthOf " + kind, () -> hall.widthOf(kind), () -> slow.widthOf(kind));
        }
        both("lower", () -> hall.lower(), () -> slow.lower());
        both("upper", () -> hall.upper(), () -> slow.upper());
    }

    private void bags() {
        both("decompose", () -> hall.decompose(), () -> slow.decompose());
        for (int i = 0; i < n; i++) {
            int bag = i;
            both("bagAt " + i, () -> hall.bagAt(bag), () -> slow.bagAt(bag));
            both("above " + i, () -> hall.above(bag), () -> slow.above(bag));
        }
        both("check", () -> hall.check(), () -> slow.check());
        both("bagWidth", () -> hall.bagWidth(), () -> slow.bagWidth());
        both("nice", () -> hall.nice(), () -> slow.nice());
    }

    private void hunt() {
        both("searchers", () -> hall.searchers(), () -> slow.searchers());
        for (int set = 0; set < 1 << n; set++) {
            int vertices = set;
            int k = Math.max(Integer.bitCount(set), hall.searchers() - 1);
            made++;
            both("haven " + k + " " + set, () -> hall.haven(k, vertices), () -> slow.haven(k, vertices));
        }
        both("takeHaven", () -> hall.takeHaven(), () -> slow.takeHaven());
        both("isBramble", () -> hall.isBramble(), () -> slow.isBramble());
        both("clearFamily", () -> hall.clearFamily(), () -> slow.clearFamily());
    }

    private void minors() {
        for (char kind : "345bo".toCharArray()) {
            both("hasMinor " + kind, () -> hall.hasMinor(kind), () -> slow.hasMinor(kind));
            for (int i = 0; i < (hall.hasMinor(kind) ? 6 : 1); i++) {
                made++;
                int index = i;
                both("model " + kind + " " + i, () -> hall.model(kind, index), () -> slow.model(kind, index));
            }
        }
        for (char kind : "fsop".toCharArray()) {
            both("isIn " + kind, () -> hall.isIn(kind), () -> slow.isIn(kind));
            both("apex " + kind, () -> hall.apex(kind), () -> slow.apex(kind));
        }
    }

    private void clauses() {
        for (char kind : "icdvke".toCharArray()) {
            both("clause " + kind, () -> hall.clause(kind, true), () -> slow.clause(kind, true));
            both("sets " + kind, () -> hall.sets(), () -> slow.sets());
            both("bestSet " + kind, () -> hall.bestSet(), () -> slow.bestSet());
            both("clause " + kind, () -> hall.clause(kind, false), () -> slow.clause(kind, false));
        }
        both("clause d", () -> hall.clause('d', true), () -> slow.clause('d', true));
        both("clause i", () -> hall.clause('i', true), () -> slow.clause('i', true));
        both("bestSet d i", () -> hall.bestSet(), () -> slow.bestSet());
    }

    private void programs() {
        both("colours", () -> hall.colours(), () -> slow.colours());
        both("colourings", () -> hall.colourings(4), () -> slow.colourings(4));
        both("rings", () -> hall.rings(), () -> slow.rings());
        both("longest", () -> hall.longest(), () -> slow.longest());
        for (int set = 0; set < 1 << n; set++) {
            int vertices = set;
            both("link " + set, () -> hall.link(vertices), () -> slow.link(vertices));
        }
        for (int i = 0; i <= n; i++) {
            int k = i;
            both("kernel " + k, () -> hall.kernel(k), () -> slow.kernel(k));
            both("kernelLeft " + k, () -> hall.kernelLeft(k), () -> slow.kernelLeft(k));
            both("hasCover " + k, () -> hall.hasCover(k), () -> slow.hasCover(k));
        }
    }

    private void twins() {
        both("twinWidth", () -> hall.twinWidth(), () -> slow.twinWidth());
        both("density", () -> hall.density(), () -> slow.density());
        both("meanDegree", () -> hall.meanDegree(), () -> slow.meanDegree());
        both("isTrue", () -> hall.isTrue(), () -> slow.isTrue());
        for (int i = 1; i < n; i++) {
            int v = i;
            both("join " + v, () -> hall.join(v, v * v % n), () -> slow.join(v, v * v % n));
            both("red " + v, () -> hall.red(), () -> slow.red());
        }
    }
}
