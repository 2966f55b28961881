import java.util.NoSuchElementException;

/** A hall of widths over a graph of at most ten vertices; a set of vertices is a sum of powers of 2. */
public final class Bramblehall {
    private static final int MOST = 10;
    private static final int SETS = 1024;
    private static final int MOST_WEIGHT = 99;
    private static final int MOST_BAGS = 20;
    private static final int MOST_FAMILY = 60;
    private static final int MOST_HYPEREDGES = 10;
    private static final int MOST_COLOURS = 9;
    private static final int MOST_TWINS = 7;
    private static final int PARTITION_CODES = 5040;
    private static final int TRAILS = 4608;
    private static final int MOST_TRIED = 6;
    private static final int MODEL_SETS = 6;
    private static final String WIDTH_KINDS = "tpcbrdgq";
    private static final String ORDER_KINDS = "tpcbr";
    private static final String MINOR_KINDS = "345bo";
    private static final String CLASS_KINDS = "fsop";
    private static final String CLAUSE_KINDS = "icdvke";

    private final Graph graph = new Graph();
    private final Orders orders = new Orders();
    private final Reductions reductions = new Reductions();
    private final Bags bags = new Bags();
    private final Bags trial = new Bags();
    private final Hunt hunt = new Hunt();
    private final Family family = new Family();
    private final Minors minors = new Minors();
    private final Clauses clauses = new Clauses();
    private final Programs programs = new Programs();
    private final Hyperedges hyperedges = new Hyperedges();
    private final Twins twins = new Twins();

    public Bramblehall() {
    }

    // ---- the graph

    public int vertex(int weight) throws IllegalArgumentException, IllegalStateException {
        needRange(weight, MOST_WEIGHT);
        if (graph.given >= MOST) {
            throw new IllegalStateException();
        }
        int vertex = graph.add(weight);
        twins.seat(vertex);
        return vertex;
    }

    public boolean edge(int vertex, int other, boolean is) throws IndexOutOfBoundsException, IllegalArgumentException {
        needPair(vertex, other);
        boolean was = graph.tied(vertex, other);
        if (was != is) {
            graph.tie(vertex, other, is);
            twins.scatter(graph.all);
        }
        return was;
    }

    public int remove(int vertex) throws IndexOutOfBoundsException {
        needVertex(vertex);
        int had = graph.degree(vertex);
        graph.drop(vertex);
        letGo(vertex);
        return had;
    }

    public int contract(int vertex, int other) throws IndexOutOfBoundsException, IllegalArgumentException {
        needPair(vertex, other);
        graph.fold(vertex, other);
        letGo(vertex);
        return graph.degree(other);
    }

    public int size() {
        return graph.count();
    }

    public int edges() {
        return graph.edgesWithin(graph.all);
    }

    public int neighbours(int vertex) throws IndexOutOfBoundsException {
        needVertex(vertex);
        return graph.near[vertex];
    }

    public int parts() {
        return graph.partsWithin(graph.all);
    }

    public int weight(int vertex) throws IndexOutOfBoundsException {
        needVertex(vertex);
        return graph.weights[vertex];
    }

    // ---- widths and orders

    public int width(char kind) throws IllegalArgumentException {
        needKind(WIDTH_KINDS, kind);
        switch (kind) {
            case 'd':
                hunt.ready(graph);
                return hunt.depth[graph.all];
            case 'g':
                return Clauses.densestCore(graph);
            case 'q':
                return Clauses.largestClique(graph);
            default:
                orders.solve(graph, kind);
                return orders.least;
        }
    }

    public int orderAt(char kind, int index) throws IllegalArgumentException, IndexOutOfBoundsException {
        needKind(ORDER_KINDS, kind);
        needIndex(index, graph.count());
        orders.solve(graph, kind);
        return orders.best[index];
    }

    public int place(int vertex) throws IndexOutOfBoundsException, UnsupportedOperationException {
        needVertex(vertex);
        if (orders.tells(vertex)) {
            throw new UnsupportedOperationException();
        }
        return orders.tell(vertex);
    }

    public int clearOrder() {
        int had = orders.toldCount;
        orders.toldCount = 0;
        return had;
    }

    public int widthOf(char kind) throws IllegalArgumentException, UnsupportedOperationException {
        needKind(ORDER_KINDS, kind);
        if (orders.toldCount < graph.count()) {
            throw new UnsupportedOperationException();
        }
        return orders.widthAlong(graph, kind, orders.told, orders.toldCount);
    }

    public int lower() {
        return reductions.boundBelow(graph);
    }

    public int upper() {
        return reductions.boundAbove(graph);
    }

    // ---- decompositions

    public int bag(int vertices, int above)
            throws IllegalArgumentException, IndexOutOfBoundsException, IllegalStateException {
        needSet(vertices);
        if (above < -1 || above >= bags.count || (above == -1) != (bags.count == 0)) {
            throw new IndexOutOfBoundsException();
        }
        if (bags.count >= MOST_BAGS) {
            throw new IllegalStateException();
        }
        return bags.hang(vertices, above);
    }

    public int clearBags() {
        int had = bags.count;
        bags.count = 0;
        return had;
    }

    public int decompose() {
        orders.solve(graph, 't');
        bags.make(graph, reductions, orders.best);
        return bags.count;
    }

    public char check() {
        return bags.fault(graph);
    }

    public int bagWidth() throws NoSuchElementException {
        needBags();
        return bags.largest() - 1;
    }

    public int bagAt(int bag) throws IndexOutOfBoundsException {
        needIndex(bag, bags.count);
        return bags.content[bag];
    }

    public int above(int bag) throws IndexOutOfBoundsException {
        needIndex(bag, bags.count);
        return bags.parent[bag];
    }

    public int nice() throws NoSuchElementException, UnsupportedOperationException {
        needBags();
        if (bags.fault(graph) != '-') {
            throw new UnsupportedOperationException();
        }
        return bags.niceCount();
    }

    // ---- searchers and brambles

    public boolean win(int searchers) throws IllegalArgumentException {
        needRange(searchers, MOST);
        return fewestSearchers() <= searchers;
    }

    public int searchers() {
        return fewestSearchers();
    }

    public int haven(int searchers, int vertices) throws IllegalArgumentException, NoSuchElementException {
        needRange(searchers, MOST);
        needSet(vertices);
        if (Integer.bitCount(vertices) > searchers) {
            throw new IllegalArgumentException();
        }
        if (fewestSearchers() <= searchers) {
            throw new NoSuchElementException();
        }
        return hunt.refuge(graph, searchers, vertices);
    }

    public int put(int vertices)
            throws IllegalArgumentException, UnsupportedOperationException, IllegalStateException {
        needFilledSet(vertices);
        if (family.holds(vertices)) {
            throw new UnsupportedOperationException();
        }
        if (family.count >= MOST_FAMILY) {
            throw new IllegalStateException();
        }
        return family.add(vertices);
    }

    public int clearFamily() {
        int had = family.count;
        family.count = 0;
        return had;
    }

    public boolean isBramble() {
        return family.brambles(graph);
    }

    public int familyOrder() {
        return family.fewestThatMeet(graph.all);
    }

    public int takeHaven() throws NoSuchElementException {
        if (graph.all == 0) {
            throw new NoSuchElementException();
        }
        hunt.ready(graph);
        family.fill(graph, hunt);
        return family.fewestThatMeet(graph.all);
    }

    // ---- minors and classes

    public boolean hasMinor(char kind) throws IllegalArgumentException {
        needKind(MINOR_KINDS, kind);
        return minors.find(graph, kind, graph.all);
    }

    public int model(char kind, int index)
            throws IllegalArgumentException, NoSuchElementException, IndexOutOfBoundsException {
        needKind(MINOR_KINDS, kind);
        if (!minors.find(graph, kind, graph.all)) {
            throw new NoSuchElementException();
        }
        needIndex(index, Minors.setsOf(kind));
        return minors.pickedSet(index);
    }

    public boolean isIn(char kind) throws IllegalArgumentException {
        needKind(CLASS_KINDS, kind);
        return minors.inClass(graph, kind, graph.all);
    }

    public int apex(char kind) throws IllegalArgumentException {
        needKind(CLASS_KINDS, kind);
        return minors.fewestTooMany(graph, kind);
    }

    // ---- clauses, programs, kernels

    public boolean clause(char kind, boolean is) throws IllegalArgumentException {
        needKind(CLAUSE_KINDS, kind);
        return clauses.tell(CLAUSE_KINDS.indexOf(kind), is);
    }

    public int sets() {
        return clauses.countKept(graph);
    }

    public int bestSet() throws NoSuchElementException {
        int best = clauses.lightest(graph);
        if (best < 0) {
            throw new NoSuchElementException();
        }
        return best;
    }

    public int colours() {
        return programs.fewestColours(graph);
    }

    public long colourings(int colours) throws IllegalArgumentException {
        needRange(colours, MOST_COLOURS);
        return programs.countColourings(graph, colours);
    }

    public long rings() {
        return programs.countRings(graph);
    }

    public int longest() throws NoSuchElementException {
        if (graph.all == 0) {
            throw new NoSuchElementException();
        }
        return programs.longestPath(graph);
    }

    public int link(int vertices) throws IllegalArgumentException, NoSuchElementException {
        needSet(vertices);
        int fewest = Clauses.fewestThatLink(graph, vertices);
        if (fewest > MOST) {
            throw new NoSuchElementException();
        }
        return fewest;
    }

    public int kernel(int k) throws IllegalArgumentException, NoSuchElementException {
        needKernel(k);
        return reductions.left;
    }

    public int kernelLeft(int k) throws IllegalArgumentException, NoSuchElementException {
        needKernel(k);
        return reductions.budget;
    }

    public boolean hasCover(int k) throws IllegalArgumentException {
        needRange(k, MOST);
        return Clauses.fewestThatCover(graph) <= k;
    }

    // ---- hyperedges, twins, figures

    public int hyperedge(int vertices) throws IllegalArgumentException, IllegalStateException {
        needFilledSet(vertices);
        if (hyperedges.count >= MOST_HYPEREDGES) {
            throw new IllegalStateException();
        }
        return hyperedges.add(vertices);
    }

    public int clearHyperedges() {
        int had = hyperedges.count;
        hyperedges.count = 0;
        return had;
    }

    public boolean isAcyclic() {
        return hyperedges.vanish();
    }

    public int cover() throws NoSuchElementException {
        if ((bags.union() & ~hyperedges.union()) != 0) {
            throw new NoSuchElementException();
        }
        return hyperedges.mostNeeded(bags);
    }

    public int join(int vertex, int other) throws IndexOutOfBoundsException, UnsupportedOperationException {
        needVertex(vertex);
        needVertex(other);
        if (twins.group[vertex] == twins.group[other]) {
            throw new UnsupportedOperationException();
        }
        twins.unite(vertex, other);
        return twins.countGroups();
    }

    public int split() {
        int had = twins.countGroups();
        twins.scatter(graph.all);
        return had;
    }

    public int red() {
        return twins.mostRed(graph);
    }

    public int twinWidth() throws UnsupportedOperationException {
        if (graph.count() > MOST_TWINS) {
            throw new UnsupportedOperationException();
        }
        return twins.leastRed(graph);
    }

    public float density() throws ArithmeticException {
        int n = graph.count();
        if (n < 2) {
            throw new ArithmeticException();
        }
        return (float) graph.edgesWithin(graph.all) / (float) (n * (n - 1) / 2);
    }

    public double meanDegree() throws ArithmeticException {
        int n = graph.count();
        if (n < 1) {
            throw new ArithmeticException();
        }
        return (double) (2 * graph.edgesWithin(graph.all)) / (double) n;
    }

    public boolean isTrue() {
        if (graph.all == 0) {
            return true;
        }
        orders.solve(graph, 't');
        int width = orders.least;
        trial.make(graph, reductions, orders.best);
        return width == fewestSearchers() - 1
                && reductions.boundBelow(graph) <= width
                && width <= reductions.boundAbove(graph)
                && trial.largest() - 1 == width
                && (graph.count() > MOST_TRIED || reductions.leastOfAllOrders(graph) >= width);
    }

    // ---- what the calls share

    private static void needRange(int number, int most) {
        if (number < 0 || number > most) {
            throw new IllegalArgumentException();
        }
    }

    private static void needKind(String kinds, char kind) {
        if (kinds.indexOf(kind) < 0) {
            throw new IllegalArgumentException();
        }
    }

    private static void needIndex(int index, int count) {
        if (index < 0 || index >= count) {
            throw new IndexOutOfBoundsException();
        }
    }

    private void needVertex(int vertex) {
        if (!graph.has(vertex)) {
            throw new IndexOutOfBoundsException();
        }
    }

    private void needPair(int vertex, int other) {
        needVertex(vertex);
        needVertex(other);
        if (vertex == other) {
            throw new IllegalArgumentException();
        }
    }

    private void needSet(int set) {
        if (!graph.holds(set)) {
            throw new IllegalArgumentException();
        }
    }

    private void needFilledSet(int set) {
        needSet(set);
        if (set == 0) {
            throw new IllegalArgumentException();
        }
    }

    private void needBags() {
        if (bags.count == 0) {
            throw new NoSuchElementException();
        }
    }

    private void needKernel(int k) {
        needRange(k, MOST);
        if (!reductions.shrink(graph, k)) {
            throw new NoSuchElementException();
        }
    }

    private void letGo(int vertex) {
        orders.forget(vertex);
        bags.forget(vertex);
        hyperedges.forget(vertex);
        family.count = 0;
        twins.scatter(graph.all);
    }

    private int fewestSearchers() {
        hunt.ready(graph);
        return hunt.need[graph.all];
    }

    /** The graph itself; every change makes its table of neighbourhoods anew and raises its age. */
    private static final class Graph {
        private final int[] near = new int[MOST];
        private final int[] weights = new int[MOST];
        private final int[] around = new int[SETS];
        private int given;
        private int all;
        private int age;

        boolean has(int v) {
            return v >= 0 && v < given && (all >> v & 1) != 0;
        }

        boolean holds(int set) {
            return (set & ~all) == 0;
        }

        int count() {
            return Integer.bitCount(all);
        }

        int degree(int v) {
            return Integer.bitCount(near[v]);
        }

        boolean tied(int v, int w) {
            return (near[v] >> w & 1) != 0;
        }

        int add(int weight) {
            int v = given;
            given++;
            all |= 1 << v;
            weights[v] = weight;
            refresh();
            return v;
        }

        void tie(int v, int w, boolean is) {
            near[v] = is ? near[v] | 1 << w : near[v] & ~(1 << w);
            near[w] = is ? near[w] | 1 << v : near[w] & ~(1 << v);
            refresh();
        }

        void drop(int v) {
            cutOff(near, v);
            all &= ~(1 << v);
            refresh();
        }

        void fold(int v, int into) {
            weights[into] += weights[v];
            mergeInto(near, v, into);
            all &= ~(1 << v);
            refresh();
        }

        static void cutOff(int[] rows, int v) {
            for (int w = 0; w < MOST; w++) {
                rows[w] &= ~(1 << v);
            }
            rows[v] = 0;
        }

        static void mergeInto(int[] rows, int v, int into) {
            int moved = rows[v] & ~(1 << into);
            cutOff(rows, v);
            rows[into] |= moved;
            for (int w = 0; w < MOST; w++) {
                if ((moved >> w & 1) != 0) {
                    rows[w] |= 1 << into;
                }
            }
        }

        private void refresh() {
            age++;
            for (int v = 0; v < MOST; v++) {
                int bit = 1 << v;
                for (int set = bit; set < 2 * bit; set++) {
                    around[set] = around[set - bit] | near[v];
                }
            }
        }

        int beside(int set) {
            return around[set] & ~set;
        }

        int reach(int from, int within) {
            int found = from & within;
            for (int round = 0; round < MOST; round++) {
                int wider = found | around[found] & within;
                if (wider == found) {
                    break;
                }
                found = wider;
            }
            return found;
        }

        int firstPart(int within) {
            return reach(within & -within, within);
        }

        boolean hangs(int set) {
            return reach(set & -set, set) == set;
        }

        boolean independent(int set) {
            return (around[set] & set) == 0;
        }

        int partsWithin(int within) {
            int found = 0;
            for (int rest = within; rest != 0 && found < MOST; found++) {
                rest &= ~firstPart(rest);
            }
            return found;
        }

        int edgesWithin(int within) {
            return ends(near, within) / 2;
        }

        static int ends(int[] rows, int within) {
            int found = 0;
            for (int v = 0; v < MOST; v++) {
                if ((within >> v & 1) != 0) {
                    found += Integer.bitCount(rows[v] & within);
                }
            }
            return found;
        }
    }

    /** The best order of one kind, kept until the graph changes, and the order that is told. */
    private static final class Orders {
        private final int[] ahead = new int[SETS];
        private final int[] basis = new int[MOST];
        private final int[] best = new int[MOST];
        private final int[] told = new int[MOST];
        private int toldCount;
        private int least;
        private char solvedKind;
        private int solvedAge = -1;

        boolean tells(int v) {
            for (int i = 0; i < toldCount; i++) {
                if (told[i] == v) {
                    return true;
                }
            }
            return false;
        }

        int tell(int v) {
            if (toldCount < MOST) {
                told[toldCount] = v;
                toldCount++;
            }
            return toldCount;
        }

        void forget(int v) {
            int kept = 0;
            for (int i = 0; i < toldCount; i++) {
                if (told[i] != v) {
                    told[kept] = told[i];
                    kept++;
                }
            }
            toldCount = kept;
        }

        int widthAlong(Graph g, char kind, int[] order, int length) {
            int front = 0;
            int most = 0;
            for (int i = 0; i < length; i++) {
                most = Math.max(most, stepCost(g, kind, front, order[i]));
                front |= 1 << order[i];
                most = Math.max(most, cutCost(g, kind, front));
                if (kind == 'b') {
                    most = Math.max(most, stretch(g, order, i));
                }
            }
            return most;
        }

        void solve(Graph g, char kind) {
            if (solvedAge == g.age && solvedKind == kind) {
                return;
            }
            solvedAge = g.age;
            solvedKind = kind;
            if (kind == 'b') {
                solveBand(g);
            } else {
                solveByBeginnings(g, kind);
            }
        }

        // What an order costs from some beginning on hangs on the beginning's set alone, not on its order.
        private void solveByBeginnings(Graph g, char kind) {
            for (int front = g.all; front >= 0; front--) {
                if (g.holds(front)) {
                    ahead[front] = Math.max(cutCost(g, kind, front), leastAhead(g, kind, front));
                }
            }
            least = ahead[0];
            int front = 0;
            for (int i = 0; i < g.count(); i++) {
                best[i] = firstWithin(g, kind, front);
                front |= 1 << best[i];
            }
        }

        private int leastAhead(Graph g, char kind, int front) {
            if (front == g.all) {
                return 0;
            }
            int found = MOST * MOST;
            for (int v = 0; v < g.given; v++) {
                if (((g.all & ~front) >> v & 1) != 0 && ahead[front | 1 << v] < found) {
                    found = Math.min(found, Math.max(stepCost(g, kind, front, v), ahead[front | 1 << v]));
                }
            }
            return found;
        }

        private int firstWithin(Graph g, char kind, int front) {
            for (int v = 0; v < g.given; v++) {
                if (((g.all & ~front) >> v & 1) != 0 && ahead[front | 1 << v] <= least
                        && stepCost(g, kind, front, v) <= least) {
                    return v;
                }
            }
            return 0;
        }

        private static int stepCost(Graph g, char kind, int front, int v) {
            if (kind != 't') {
                return 0;
            }
            int gone = front | 1 << v;
            return Integer.bitCount(g.around[g.reach(1 << v, gone)] & ~gone);
        }

        private int cutCost(Graph g, char kind, int front) {
            switch (kind) {
                case 'p':
                    return Integer.bitCount(front & g.around[g.all & ~front]);
                case 'c':
                    return edgesAcross(g, front);
                case 'r':
                    return rank(g, front);
                default:
                    return 0;
            }
        }

        private static int edgesAcross(Graph g, int front) {
            int found = 0;
            for (int v = 0; v < g.given; v++) {
                if ((front >> v & 1) != 0) {
                    found += Integer.bitCount(g.near[v] & ~front);
                }
            }
            return found;
        }

        private int rank(Graph g, int front) {
            int found = 0;
            for (int bit = 0; bit < MOST; bit++) {
                basis[bit] = 0;
            }
            for (int v = 0; v < g.given; v++) {
                if ((front >> v & 1) != 0 && widens(g.near[v] & ~front)) {
                    found++;
                }
            }
            return found;
        }

        private boolean widens(int vector) {
            int row = vector;
            for (int bit = MOST - 1; bit >= 0; bit--) {
                if ((row >> bit & 1) != 0) {
                    if (basis[bit] == 0) {
                        basis[bit] = row;
                        return true;
                    }
                    row ^= basis[bit];
                }
            }
            return false;
        }

        private static int stretch(Graph g, int[] order, int at) {
            for (int i = 0; i < at; i++) {
                if (g.tied(order[i], order[at])) {
                    return at - i;
                }
            }
            return 0;
        }

        // Parts can stand one behind the other, so that the widest of them alone sets the width of the whole.
        private void solveBand(Graph g) {
            least = 0;
            int rest = g.all;
            for (int round = 0; round < MOST && rest != 0; round++) {
                int part = g.firstPart(rest);
                widenFor(g, part);
                rest &= ~part;
            }
            extendBand(this, g, g.all, 0, 0);
        }

        private void widenFor(Graph g, int part) {
            for (int round = 0; round < MOST; round++) {
                if (extendBand(this, g, part, 0, 0)) {
                    return;
                }
                least++;
            }
        }

        private static boolean extendBand(Orders orders, Graph g, int within, int at, int front) {
            if (front == within || at >= MOST) {
                return front == within;
            }
            for (int v = 0; v < g.given; v++) {
                int bit = 1 << v;
                if ((within & ~front & bit) != 0 && !followsTwin(g, within & ~front, v)) {
                    orders.best[at] = v;
                    if (orders.hasRoom(g, within, at, front | bit)
                            && extendBand(orders, g, within, at + 1, front | bit)) {
                        return true;
                    }
                }
            }
            return false;
        }

        // Two vertices that could change places stand in rising order in the first order of all.
        private static boolean followsTwin(Graph g, int open, int v) {
            for (int w = 0; w < v; w++) {
                if ((open >> w & 1) != 0 && (g.near[v] & ~(1 << w)) == (g.near[w] & ~(1 << v))) {
                    return true;
                }
            }
            return false;
        }

        // Whoever is m steps from the first places must stand within m bands of them: too many, and none fits.
        private boolean hasRoom(Graph g, int within, int at, int front) {
            int first = 0;
            for (int i = 0; i <= at; i++) {
                first |= 1 << best[i];
                if (i >= at - least && !ballsFit(g, within, first, front, i)) {
                    return false;
                }
            }
            return true;
        }

        private boolean ballsFit(Graph g, int within, int first, int front, int at) {
            int ball = first;
            int last = at;
            for (int steps = 0; steps < MOST; steps++) {
                ball |= g.around[ball];
                last += least;
                if (last >= Integer.bitCount(within) - 1) {
                    return true;
                }
                if (Integer.bitCount(ball & ~front) > last + 1 - Integer.bitCount(front)) {
                    return false;
                }
            }
            return true;
        }
    }

    /** A copy of the graph that shrinks: by eliminating, by contracting, or by the rules of the kernel. */
    private static final class Reductions {
        private final int[] rows = new int[MOST];
        private final int[] order = new int[MOST];
        private int left;
        private int budget;

        void load(Graph g) {
            System.arraycopy(g.near, 0, rows, 0, MOST);
            left = g.all;
        }

        private boolean stands(int v) {
            return (left >> v & 1) != 0;
        }

        private int degree(int v) {
            return Integer.bitCount(rows[v]);
        }

        private void takeOff(int v) {
            Graph.cutOff(rows, v);
            left &= ~(1 << v);
        }

        int eliminate(int v) {
            int ring = rows[v];
            takeOff(v);
            for (int w = 0; w < MOST; w++) {
                if ((ring >> w & 1) != 0) {
                    rows[w] |= ring & ~(1 << w);
                }
            }
            return ring;
        }

        int boundBelow(Graph g) {
            load(g);
            int most = 0;
            for (int round = 0; round < MOST; round++) {
                int v = leastOf(left);
                if (v < 0) {
                    break;
                }
                most = Math.max(most, degree(v));
                int into = leastOf(rows[v]);
                Graph.mergeInto(rows, v, into < 0 ? v : into);
                left &= ~(1 << v);
            }
            return most;
        }

        // Those without neighbours are passed over; -1 if there are no others.
        private int leastOf(int among) {
            int found = -1;
            for (int v = 0; v < MOST; v++) {
                if ((among >> v & 1) != 0 && rows[v] != 0 && (found < 0 || degree(v) < degree(found))) {
                    found = v;
                }
            }
            return found;
        }

        int boundAbove(Graph g) {
            load(g);
            int most = 0;
            for (int round = 0; round < MOST && left != 0; round++) {
                most = Math.max(most, Integer.bitCount(eliminate(easiest())));
            }
            return most;
        }

        private int easiest() {
            int found = 0;
            int fewest = MOST * MOST * MOST;
            for (int v = 0; v < MOST; v++) {
                if (stands(v)) {
                    int price = lacking(v) * MOST + degree(v);
                    if (price < fewest) {
                        fewest = price;
                        found = v;
                    }
                }
            }
            return found;
        }

        private int lacking(int v) {
            int d = degree(v);
            return (d * (d - 1) - Graph.ends(rows, rows[v])) / 2;
        }

        // Each code from 0 to n! - 1 is one order: its digits tell which of those left comes next.
        int leastOfAllOrders(Graph g) {
            int n = g.count();
            int codes = 1;
            for (int i = 2; i <= n && i <= MOST_TRIED; i++) {
                codes *= i;
            }
            int found = MOST;
            for (int code = 0; code < codes; code++) {
                readOrder(g, code);
                found = Math.min(found, widthByEliminating(g, n));
            }
            return found;
        }

        private void readOrder(Graph g, int code) {
            int rest = code;
            int open = g.all;
            int n = g.count();
            for (int i = 0; i < n; i++) {
                order[i] = nthOf(open, rest % (n - i));
                open &= ~(1 << order[i]);
                rest /= n - i;
            }
        }

        private static int nthOf(int set, int index) {
            int passed = 0;
            for (int v = 0; v < MOST; v++) {
                if ((set >> v & 1) != 0) {
                    if (passed == index) {
                        return v;
                    }
                    passed++;
                }
            }
            return 0;
        }

        private int widthByEliminating(Graph g, int n) {
            load(g);
            int most = 0;
            for (int i = 0; i < n; i++) {
                most = Math.max(most, Integer.bitCount(eliminate(order[i])));
            }
            return most;
        }

        // What stands afterwards is the kernel; false if it is refused.
        boolean shrink(Graph g, int k) {
            load(g);
            budget = k;
            for (int round = 0; round < MOST; round++) {
                if (!reduceOnce()) {
                    break;
                }
                if (budget < 0) {
                    return false;
                }
            }
            return Graph.ends(rows, left) <= 2 * budget * budget;
        }

        private boolean reduceOnce() {
            int lone = lowestWith(0, 0);
            if (lone >= 0) {
                takeOff(lone);
                return true;
            }
            int goes = lowestWith(budget + 1, MOST);
            if (goes < 0) {
                int leaf = lowestWith(1, 1);
                goes = leaf < 0 ? -1 : nthOf(rows[leaf], 0);
            }
            if (goes < 0) {
                return false;
            }
            takeOff(goes);
            budget--;
            return true;
        }

        private int lowestWith(int fewest, int most) {
            for (int v = 0; v < MOST; v++) {
                if (stands(v) && degree(v) >= fewest && degree(v) <= most) {
                    return v;
                }
            }
            return -1;
        }
    }

    /** A tree of bags; each but the first one hangs below an earlier one. */
    private static final class Bags {
        private final int[] content = new int[MOST_BAGS];
        private final int[] parent = new int[MOST_BAGS];
        private final int[] number = new int[MOST];
        private int count;

        int hang(int set, int above) {
            int bag = count;
            if (bag < MOST_BAGS) {
                content[bag] = set;
                parent[bag] = above;
                count++;
            }
            return bag;
        }

        void forget(int v) {
            for (int i = 0; i < count; i++) {
                content[i] &= ~(1 << v);
            }
        }

        void make(Graph g, Reductions reductions, int[] order) {
            int n = g.count();
            reductions.load(g);
            for (int i = 0; i < n; i++) {
                content[n - 1 - i] = 1 << order[i] | reductions.eliminate(order[i]);
                number[order[i]] = n - 1 - i;
            }
            for (int i = 0; i < n; i++) {
                parent[i] = makeParent(i, content[i] & ~(1 << order[n - 1 - i]));
            }
            count = n;
        }

        // The vertex that comes first in the order has the highest number, as the bags are put in reversed order.
        private int makeParent(int bag, int ring) {
            int found = -1;
            for (int v = 0; v < MOST; v++) {
                if ((ring >> v & 1) != 0) {
                    found = Math.max(found, number[v]);
                }
            }
            return found < 0 ? bag - 1 : found;
        }

        int union() {
            int found = 0;
            for (int i = 0; i < count; i++) {
                found |= content[i];
            }
            return found;
        }

        int largest() {
            int most = 0;
            for (int i = 0; i < count; i++) {
                most = Math.max(most, Integer.bitCount(content[i]));
            }
            return most;
        }

        char fault(Graph g) {
            if ((g.all & ~union()) != 0) {
                return 'v';
            }
            if (!holdsAllEdges(g)) {
                return 'e';
            }
            return everyVertexHangs(g) ? '-' : 'c';
        }

        private boolean holdsAllEdges(Graph g) {
            for (int v = 0; v < g.given; v++) {
                int met = 0;
                for (int i = 0; i < count; i++) {
                    if ((content[i] >> v & 1) != 0) {
                        met |= content[i];
                    }
                }
                if ((g.near[v] & ~met) != 0) {
                    return false;
                }
            }
            return true;
        }

        // The bags of a vertex hang together if just one of them has none of them above it.
        private boolean everyVertexHangs(Graph g) {
            int topped = 0;
            for (int i = 0; i < count; i++) {
                int tops = content[i] & ~contentAbove(i);
                if ((tops & topped) != 0) {
                    return false;
                }
                topped |= tops;
            }
            return true;
        }

        private int contentAbove(int bag) {
            return parent[bag] < 0 ? 0 : content[parent[bag]];
        }

        int niceCount() {
            int found = 0;
            for (int i = 0; i < count; i++) {
                int below = countBelow(i);
                found += below == 0 ? 1 + Integer.bitCount(content[i]) : below - 1;
                // above the first one nothing stands, so that its own vertices count here
                found += Integer.bitCount(content[i] ^ contentAbove(i));
            }
            return found;
        }

        private int countBelow(int bag) {
            int found = 0;
            for (int i = 0; i < count; i++) {
                if (parent[i] == bag) {
                    found++;
                }
            }
            return found;
        }
    }

    /** For each set the fewest searchers to whom all its parts are lost, and its depth. */
    private static final class Hunt {
        private final int[] need = new int[SETS];
        private final int[] depth = new int[SETS];
        private int readyAge = -1;

        void ready(Graph g) {
            if (readyAge == g.age) {
                return;
            }
            readyAge = g.age;
            for (int set = 1; set <= g.all; set++) {
                if (g.holds(set)) {
                    weigh(g, set);
                }
            }
        }

        private void weigh(Graph g, int set) {
            int part = g.firstPart(set);
            if (part != set) {
                need[set] = Math.max(need[part], need[set & ~part]);
                depth[set] = Math.max(depth[part], depth[set & ~part]);
                return;
            }
            int fewest = MOST;
            int shallowest = MOST;
            for (int v = 0; v < g.given; v++) {
                if ((set >> v & 1) != 0) {
                    fewest = Math.min(fewest, need[set & ~(1 << v)]);
                    shallowest = Math.min(shallowest, depth[set & ~(1 << v)]);
                }
            }
            need[set] = Math.max(Integer.bitCount(g.beside(set)) + 1, fewest);
            depth[set] = shallowest + 1;
        }

        int refuge(Graph g, int searchers, int taken) {
            int rest = g.all & ~taken;
            for (int round = 0; round < MOST && rest != 0; round++) {
                int part = g.firstPart(rest);
                if (need[part] > searchers) {
                    return part;
                }
                rest &= ~part;
            }
            return 0;
        }
    }

    /** Sets of vertices, each once, that may be a bramble. */
    private static final class Family {
        private final int[] member = new int[MOST_FAMILY];
        private int count;

        boolean holds(int set) {
            for (int i = 0; i < count; i++) {
                if (member[i] == set) {
                    return true;
                }
            }
            return false;
        }

        int add(int set) {
            if (count < MOST_FAMILY) {
                member[count] = set;
                count++;
            }
            return count;
        }

        void fill(Graph g, Hunt hunt) {
            count = 0;
            int searchers = hunt.need[g.all] - 1;
            for (int set = 0; set < g.all && count < MOST_FAMILY; set++) {
                if (g.holds(set) && Integer.bitCount(set) <= searchers) {
                    int part = hunt.refuge(g, searchers, set);
                    if (part != 0 && !holds(part)) {
                        add(part);
                    }
                }
            }
        }

        boolean brambles(Graph g) {
            for (int i = 0; i < count; i++) {
                if (!g.hangs(member[i])) {
                    return false;
                }
                int touched = member[i] | g.around[member[i]];
                for (int j = 0; j < i; j++) {
                    if ((touched & member[j]) == 0) {
                        return false;
                    }
                }
            }
            return true;
        }

        int fewestThatMeet(int all) {
            int fewest = Integer.bitCount(all);
            for (int set = 0; set < all; set++) {
                if ((set & ~all) == 0 && Integer.bitCount(set) < fewest && meetsAll(set)) {
                    fewest = Integer.bitCount(set);
                }
            }
            return fewest;
        }

        private boolean meetsAll(int set) {
            for (int i = 0; i < count; i++) {
                if ((member[i] & set) == 0) {
                    return false;
                }
            }
            return true;
        }
    }

    /** Searches for models of minors, the first one kept until the graph changes. */
    private static final class Minors {
        private final int[] lean = new int[SETS];
        private final int[] picked = new int[MODEL_SETS];
        private int leanCount;
        private int leanAge = -1;
        private char foundKind;
        private int foundAge = -1;
        private boolean found;

        static int setsOf(char kind) {
            switch (kind) {
                case '3':
                    return 3;
                case '4':
                    return 4;
                case 'b':
                    return 6;
                default:
                    return 5;
            }
        }

        // How many sets the first side has; the sets of a clique are all of one side.
        private static int firstSide(char kind) {
            return kind == 'b' ? 3 : kind == 'o' ? 2 : 0;
        }

        int pickedSet(int index) {
            return lean[picked[index]];
        }

        boolean find(Graph g, char kind, int within) {
            if (within == g.all && foundAge == g.age && foundKind == kind) {
                return found;
            }
            ready(g);
            found = extend(this, g, kind, 0, within);
            foundKind = kind;
            foundAge = within == g.all ? g.age : -1;
            return found;
        }

        private void ready(Graph g) {
            if (leanAge == g.age) {
                return;
            }
            leanAge = g.age;
            leanCount = 0;
            for (int set = 1; set <= g.all; set++) {
                if (g.holds(set) && g.hangs(set) && isLean(g, set)) {
                    lean[leanCount] = set;
                    leanCount++;
                }
            }
        }

        // A set that can spare a vertex is in no first model: without it, a model with a lesser number is left.
        private static boolean isLean(Graph g, int set) {
            for (int v = 0; v < g.given; v++) {
                int rest = set & ~(1 << v);
                if (rest != set && rest != 0 && (g.near[v] & ~set & ~g.around[rest]) == 0 && g.hangs(rest)) {
                    return false;
                }
            }
            return true;
        }

        private static boolean extend(Minors minors, Graph g, char kind, int at, int free) {
            if (at >= setsOf(kind) || at >= MODEL_SETS) {
                return true;
            }
            if (!minors.roomIsLeft(g, kind, at, free)) {
                return false;
            }
            for (int i = minors.startOf(kind, at); i < minors.leanCount; i++) {
                int set = minors.lean[i];
                if ((set & ~free) == 0 && minors.touches(g, kind, at, set)) {
                    minors.picked[at] = i;
                    if (extend(minors, g, kind, at + 1, free & ~set)) {
                        return true;
                    }
                }
            }
            return false;
        }

        // Within a side the sets rise, and of two like sides the first one begins with the lesser set.
        private int startOf(char kind, int at) {
            if (at == 0 || kind == 'o' && at == firstSide(kind)) {
                return 0;
            }
            return kind == 'b' && at == firstSide(kind) ? picked[0] + 1 : picked[at - 1] + 1;
        }

        private boolean touches(Graph g, char kind, int at, int set) {
            int side = firstSide(kind);
            int partners = side == 0 ? at : at < side ? 0 : side;
            for (int i = 0; i < partners; i++) {
                if ((g.around[pickedSet(i)] & set) == 0) {
                    return false;
                }
            }
            return true;
        }

        // Each set that is picked still needs a vertex beside it for every set to come that must touch it.
        private boolean roomIsLeft(Graph g, char kind, int at, int free) {
            int side = firstSide(kind);
            int toCome = setsOf(kind) - at;
            if (Integer.bitCount(free) < toCome) {
                return false;
            }
            int facing = side == 0 ? toCome : Math.min(toCome, setsOf(kind) - side);
            int partners = side == 0 ? at : Math.min(at, side);
            for (int i = 0; i < partners; i++) {
                if (Integer.bitCount(g.around[pickedSet(i)] & free) < facing) {
                    return false;
                }
            }
            return true;
        }

        boolean inClass(Graph g, char kind, int within) {
            switch (kind) {
                case 'f':
                    return !find(g, '3', within);
                case 's':
                    return !find(g, '4', within);
                case 'o':
                    return !find(g, '4', within) && !find(g, 'o', within);
                default:
                    return !find(g, '5', within) && !find(g, 'b', within);
            }
        }

        int fewestTooMany(Graph g, char kind) {
            int n = g.count();
            for (int fewest = 0; fewest < n; fewest++) {
                for (int set = 0; set < g.all; set++) {
                    if (g.holds(set) && Integer.bitCount(set) == fewest && inClass(g, kind, g.all & ~set)) {
                        return fewest;
                    }
                }
            }
            return n;
        }
    }

    /** The clauses that are told, and questions answered by a look at each set of vertices. */
    private static final class Clauses {
        private int told;

        boolean tell(int index, boolean is) {
            boolean was = (told >> index & 1) != 0;
            told = is ? told | 1 << index : told & ~(1 << index);
            return was;
        }

        private boolean keepsAll(Graph g, int set) {
            for (int i = 0; i < CLAUSE_KINDS.length(); i++) {
                if ((told >> i & 1) != 0 && !keeps(g, CLAUSE_KINDS.charAt(i), set)) {
                    return false;
                }
            }
            return true;
        }

        private static boolean keeps(Graph g, char kind, int set) {
            switch (kind) {
                case 'i':
                    return g.independent(set);
                case 'c':
                    return isClique(g, set);
                case 'd':
                    return (g.all & ~set & ~g.around[set]) == 0;
                case 'v':
                    return g.independent(g.all & ~set);
                case 'k':
                    return g.hangs(set);
                default:
                    return isEven(g, set);
            }
        }

        private static boolean isClique(Graph g, int set) {
            for (int v = 0; v < g.given; v++) {
                if ((set >> v & 1) != 0 && (set & ~(1 << v) & ~g.near[v]) != 0) {
                    return false;
                }
            }
            return true;
        }

        private static boolean isEven(Graph g, int set) {
            for (int v = 0; v < g.given; v++) {
                if ((set >> v & 1) != 0 && (Integer.bitCount(set & g.near[v]) & 1) != 0) {
                    return false;
                }
            }
            return true;
        }

        int countKept(Graph g) {
            int found = 0;
            for (int set = 0; set <= g.all; set++) {
                if (g.holds(set) && keepsAll(g, set)) {
                    found++;
                }
            }
            return found;
        }

        // -1 if no set keeps all clauses.
        int lightest(Graph g) {
            int best = -1;
            int lightest = 0;
            for (int set = 0; set <= g.all; set++) {
                if (g.holds(set) && keepsAll(g, set)) {
                    int weight = weigh(g, set);
                    if (best < 0 || weight < lightest) {
                        best = set;
                        lightest = weight;
                    }
                }
            }
            return best;
        }

        private static int weigh(Graph g, int set) {
            int sum = 0;
            for (int v = 0; v < g.given; v++) {
                if ((set >> v & 1) != 0) {
                    sum += g.weights[v];
                }
            }
            return sum;
        }

        static int largestClique(Graph g) {
            int most = 0;
            for (int set = 0; set <= g.all; set++) {
                if (g.holds(set) && Integer.bitCount(set) > most && isClique(g, set)) {
                    most = Integer.bitCount(set);
                }
            }
            return most;
        }

        static int densestCore(Graph g) {
            int most = 0;
            for (int set = 1; set <= g.all; set++) {
                if (g.holds(set)) {
                    most = Math.max(most, leastDegree(g, set));
                }
            }
            return most;
        }

        private static int leastDegree(Graph g, int set) {
            int fewest = MOST;
            for (int v = 0; v < g.given; v++) {
                if ((set >> v & 1) != 0) {
                    fewest = Math.min(fewest, Integer.bitCount(g.near[v] & set));
                }
            }
            return fewest;
        }

        // More than all vertices if none links them.
        static int fewestThatLink(Graph g, int vertices) {
            int fewest = MOST + 1;
            for (int set = 0; set <= g.all; set++) {
                if (g.holds(set) && (vertices & ~set) == 0 && Integer.bitCount(set) < fewest && g.hangs(set)) {
                    fewest = Integer.bitCount(set);
                }
            }
            return fewest;
        }

        static int fewestThatCover(Graph g) {
            int fewest = g.count();
            for (int set = 0; set < g.all; set++) {
                if (g.holds(set) && Integer.bitCount(set) < fewest && g.independent(g.all & ~set)) {
                    fewest = Integer.bitCount(set);
                }
            }
            return fewest;
        }
    }

    /** Counts over the sets of vertices, each one's from those of its own smaller sets. */
    private static final class Programs {
        private final int[] shade = new int[MOST];
        private final int[] shadings = new int[MOST + 1];
        private final int[] ends = new int[SETS];
        private final int[] trails = new int[TRAILS];
        private int shadedAge = -1;

        int fewestColours(Graph g) {
            readyShadings(g);
            for (int used = 0; used < MOST; used++) {
                if (shadings[used] > 0) {
                    return used;
                }
            }
            return MOST;
        }

        long countColourings(Graph g, int colours) {
            readyShadings(g);
            long sum = 0;
            long choices = 1;
            for (int used = 0; used <= colours; used++) {
                sum += shadings[used] * choices;
                choices *= colours - used;
            }
            return sum;
        }

        private void readyShadings(Graph g) {
            if (shadedAge != g.age) {
                shadedAge = g.age;
                for (int used = 0; used <= MOST; used++) {
                    shadings[used] = 0;
                }
                shadeFrom(this, g, 0, 0);
            }
        }

        // Shades are colours without names: a vertex takes one that is used, or opens the next one.
        private static void shadeFrom(Programs programs, Graph g, int v, int used) {
            if (v >= g.given || v >= MOST) {
                programs.shadings[used]++;
            } else if (!g.has(v)) {
                shadeFrom(programs, g, v + 1, used);
            } else {
                for (int i = 0; i <= used; i++) {
                    int before = i < used ? programs.shade[i] : 0;
                    if ((before & g.near[v]) == 0) {
                        programs.shade[i] = before | 1 << v;
                        shadeFrom(programs, g, v + 1, Math.max(used, i + 1));
                        programs.shade[i] = before;
                    }
                }
            }
        }

        // A trail begins at the lowest vertex and goes through a set of others, none of which is vertex 0.
        long countRings(Graph g) {
            if (g.count() < 3) {
                return 0;
            }
            int start = g.all & -g.all;
            int others = g.all & ~start;
            for (int set = 1; set <= others; set++) {
                if ((set & ~others) == 0) {
                    countTrails(g, set, start);
                }
            }
            long closed = 0;
            for (int v = 1; v < g.given; v++) {
                if ((g.near[v] & start) != 0) {
                    closed += trails[seatOf(others, v)];
                }
            }
            return closed / 2;
        }

        private static int seatOf(int set, int end) {
            return (set >> 1) * (MOST - 1) + end - 1;
        }

        private void countTrails(Graph g, int set, int start) {
            for (int v = 1; v < g.given; v++) {
                int before = set & ~(1 << v);
                if (before == 0) {
                    trails[seatOf(set, v)] = (g.near[v] & start) != 0 ? 1 : 0;
                } else if (before != set) {
                    trails[seatOf(set, v)] = trailsInto(before, g.near[v]);
                }
            }
        }

        private int trailsInto(int set, int from) {
            int sum = 0;
            for (int v = 1; v < MOST; v++) {
                if ((set & from & 1 << v) != 0) {
                    sum += trails[seatOf(set, v)];
                }
            }
            return sum;
        }

        int longestPath(Graph g) {
            int most = 0;
            for (int set = 1; set <= g.all; set++) {
                if (g.holds(set)) {
                    ends[set] = endsOf(g, set);
                    if (ends[set] != 0) {
                        most = Math.max(most, Integer.bitCount(set) - 1);
                    }
                }
            }
            return most;
        }

        private int endsOf(Graph g, int set) {
            if ((set & (set - 1)) == 0) {
                return set;
            }
            int found = 0;
            for (int v = 0; v < g.given; v++) {
                if ((set >> v & 1) != 0 && (ends[set & ~(1 << v)] & g.near[v]) != 0) {
                    found |= 1 << v;
                }
            }
            return found;
        }
    }

    /** The hyperedges, and what of them is left as they vanish. */
    private static final class Hyperedges {
        private final int[] content = new int[MOST_HYPEREDGES];
        private final int[] rest = new int[MOST_HYPEREDGES];
        private final int[] fewest = new int[MOST_BAGS];
        private int count;

        int add(int set) {
            if (count < MOST_HYPEREDGES) {
                content[count] = set;
                count++;
            }
            return count;
        }

        void forget(int v) {
            for (int i = 0; i < count; i++) {
                content[i] &= ~(1 << v);
            }
        }

        int union() {
            return unionOf((1 << count) - 1);
        }

        private int unionOf(int choice) {
            int found = 0;
            for (int i = 0; i < count; i++) {
                if ((choice >> i & 1) != 0) {
                    found |= content[i];
                }
            }
            return found;
        }

        // An empty one is one that has gone; each round takes a vertex or a hyperedge away, or is the last.
        boolean vanish() {
            System.arraycopy(content, 0, rest, 0, MOST_HYPEREDGES);
            int rounds = (MOST_HYPEREDGES + 1) * (MOST + 1);
            for (int round = 0; round < rounds; round++) {
                boolean stripped = stripLone();
                if (!dropInner() && !stripped) {
                    break;
                }
            }
            for (int i = 0; i < count; i++) {
                if (rest[i] != 0) {
                    return false;
                }
            }
            return true;
        }

        private boolean stripLone() {
            int once = 0;
            int twice = 0;
            for (int i = 0; i < count; i++) {
                twice |= once & rest[i];
                once |= rest[i];
            }
            for (int i = 0; i < count; i++) {
                rest[i] &= twice;
            }
            return once != twice;
        }

        private boolean dropInner() {
            boolean dropped = false;
            for (int i = 0; i < count; i++) {
                if (rest[i] != 0 && isInner(i)) {
                    rest[i] = 0;
                    dropped = true;
                }
            }
            return dropped;
        }

        private boolean isInner(int hyperedge) {
            for (int i = 0; i < count; i++) {
                if (i != hyperedge && (rest[hyperedge] & ~rest[i]) == 0) {
                    return true;
                }
            }
            return false;
        }

        int mostNeeded(Bags bags) {
            for (int bag = 0; bag < bags.count; bag++) {
                fewest[bag] = MOST_HYPEREDGES;
            }
            for (int choice = 0; choice < 1 << count; choice++) {
                int held = unionOf(choice);
                for (int bag = 0; bag < bags.count; bag++) {
                    if ((bags.content[bag] & ~held) == 0) {
                        fewest[bag] = Math.min(fewest[bag], Integer.bitCount(choice));
                    }
                }
            }
            int most = 0;
            for (int bag = 0; bag < bags.count; bag++) {
                most = Math.max(most, fewest[bag]);
            }
            return most;
        }
    }

    /** The parts that vertices are joined to: each vertex holds its part's set, one that is gone holds none. */
    private static final class Twins {
        private final int[] group = new int[MOST];
        private final int[] label = new int[MOST_TWINS];
        private final int[] piece = new int[MOST_TWINS];
        private final int[] least = new int[PARTITION_CODES];
        private int labelled;
        private int pieces;

        void seat(int v) {
            group[v] = 1 << v;
        }

        void scatter(int all) {
            for (int v = 0; v < MOST; v++) {
                group[v] = all & 1 << v;
            }
        }

        void unite(int v, int w) {
            int both = group[v] | group[w];
            for (int u = 0; u < MOST; u++) {
                if ((both >> u & 1) != 0) {
                    group[u] = both;
                }
            }
        }

        private boolean leads(int v) {
            return group[v] != 0 && (group[v] & -group[v]) == 1 << v;
        }

        int countGroups() {
            int found = 0;
            for (int v = 0; v < MOST; v++) {
                if (leads(v)) {
                    found++;
                }
            }
            return found;
        }

        int mostRed(Graph g) {
            int most = 0;
            for (int v = 0; v < MOST; v++) {
                if (leads(v)) {
                    most = Math.max(most, redTo(g, v));
                }
            }
            return most;
        }

        private int redTo(Graph g, int leader) {
            int found = 0;
            for (int v = 0; v < MOST; v++) {
                if (v != leader && leads(v) && isRed(g, group[leader], group[v])) {
                    found++;
                }
            }
            return found;
        }

        private static boolean isRed(Graph g, int part, int other) {
            int across = 0;
            for (int v = 0; v < g.given; v++) {
                if ((part >> v & 1) != 0) {
                    across += Integer.bitCount(g.near[v] & other);
                }
            }
            return across != 0 && across != Integer.bitCount(part) * Integer.bitCount(other);
        }

        // A partition's code tells of each vertex the label of its part, as a number whose digit i is at most i.
        // Labels are given in the order in which parts appear, so that joining two always lowers the code.
        int leastRed(Graph g) {
            labelled = Math.min(g.count(), MOST_TWINS);
            int codes = 1;
            for (int i = 2; i <= labelled; i++) {
                codes *= i;
            }
            for (int code = 0; code < codes; code++) {
                if (readLabels(code)) {
                    gatherPieces(g);
                    least[code] = Math.max(mostRedPiece(g), leastAfterJoin());
                }
            }
            return least[codes - 1];
        }

        // False if the labels do not appear in their order.
        private boolean readLabels(int code) {
            int rest = code;
            for (int i = labelled - 1; i >= 0; i--) {
                label[i] = rest % (i + 1);
                rest /= i + 1;
            }
            pieces = 0;
            for (int i = 0; i < labelled; i++) {
                if (label[i] > pieces) {
                    return false;
                }
                pieces = Math.max(pieces, label[i] + 1);
            }
            return true;
        }

        private void gatherPieces(Graph g) {
            for (int p = 0; p < MOST_TWINS; p++) {
                piece[p] = 0;
            }
            int seat = 0;
            for (int v = 0; v < MOST && seat < labelled; v++) {
                if (g.has(v)) {
                    piece[label[seat]] |= 1 << v;
                    seat++;
                }
            }
        }

        private int mostRedPiece(Graph g) {
            int most = 0;
            for (int p = 0; p < pieces; p++) {
                int found = 0;
                for (int q = 0; q < pieces; q++) {
                    if (q != p && isRed(g, piece[p], piece[q])) {
                        found++;
                    }
                }
                most = Math.max(most, found);
            }
            return most;
        }

        private int leastAfterJoin() {
            if (pieces < 2) {
                return 0;
            }
            int found = MOST;
            for (int q = 1; q < pieces; q++) {
                for (int p = 0; p < q; p++) {
                    found = Math.min(found, least[codeOfJoin(p, q)]);
                }
            }
            return found;
        }

        private int codeOfJoin(int kept, int joined) {
            int code = 0;
            for (int i = 0; i < labelled; i++) {
                int l = label[i];
                int next = l == joined ? kept : l > joined ? l - 1 : l;
                code = code * (i + 1) + next;
            }
            return code;
        }
    }
}
