import java.util.Random;

/** Random graphs of up to ten vertices: what is known of their figures must hold between them. */
public final class KnownTest {
    private static final String ORDERED = "tpcbr";
    private static final String MINORS = "345bo";
    private final int[] near;
    private final String name;

    private KnownTest(Random random) {
        int n = 7 + random.nextInt(4);
        double likely = random.nextDouble();
        near = new int[n];
        StringBuilder text = new StringBuilder("n " + n + ":");
        for (int v = 0; v < n; v++) {
            for (int w = 0; w < v; w++) {
                if (random.nextDouble() < likely) {
                    near[v] |= 1 << w;
                    near[w] |= 1 << v;
                    text.append(" ").append(w).append("-").append(v);
                }
            }
        }
        name = text.toString();
    }

    public static void main(String[] args) {
        Random random = new Random(7);
        for (int i = 0; i < 400; i++) {
            KnownTest graph = new KnownTest(random);
            graph.widths(graph.made());
            for (char kind : ORDERED.toCharArray()) {
                graph.orders(kind, random);
            }
            graph.decomposition(graph.made());
            graph.hunt(graph.made());
            for (int kind = 0; kind < MINORS.length(); kind++) {
                graph.models(graph.made(), kind);
            }
            graph.classes(graph.made());
            graph.programs(graph.made());
            graph.holds("isTrue", graph.made().isTrue());
        }
        Due.end();
    }

    /** A new hall for each question, as an object is used for 512 calls alone. */
    private Bramblehall made() {
        Bramblehall x = Due.hall(near.length);
        for (int v = 0; v < near.length; v++) {
            for (int w = 0; w < v; w++) {
                if ((near[v] >> w & 1) != 0) {
                    x.edge(v, w, true);
                }
            }
        }
        return x;
    }

    private void holds(String what, boolean is) {
        Due.say(name + ": " + what, "true", String.valueOf(is));
    }

    private void widths(Bramblehall x) {
        int t = x.width('t');
        int p = x.width('p');
        holds("lower <= t", x.lower() <= t);
        holds("t <= upper", t <= x.upper());
        holds("t <= p", t <= p);
        holds("p <= c", p <= x.width('c'));
        holds("p <= b", p <= x.width('b'));
        holds("r <= p", x.width('r') <= p);
        holds("p < d", p < x.width('d'));
        holds("g <= t", x.width('g') <= t);
        holds("q <= g + 1", x.width('q') <= x.width('g') + 1);
        holds("q <= colours", x.width('q') <= x.colours());
        holds("colours <= g + 1", x.colours() <= x.width('g') + 1);
        holds("the longest path bounds the depth", x.width('d') <= x.longest() + 1);
    }

    private void orders(char kind, Random random) {
        Bramblehall x = made();
        int n = near.length;
        int[] best = new int[n];
        for (int i = 0; i < n; i++) {
            best[i] = x.orderAt(kind, i);
            x.place(best[i]);
        }
        int width = x.width(kind);
        holds("the best order has the width " + kind, x.widthOf(kind) == width);
        for (int tried = 0; tried < 40; tried++) {
            x = tried % 20 == 0 ? made() : x;
            otherOrder(x, kind, best, width, random);
        }
    }

    /** Orders ahead of the best one, compared vertex by vertex, are wider; the others not less wide. */
    private void otherOrder(Bramblehall x, char kind, int[] best, int width, Random random) {
        int n = best.length;
        int[] order = best.clone();
        int from = random.nextInt(n);
        for (int i = from; i < n; i++) {
            int j = i + random.nextInt(n - i);
            int kept = order[i];
            order[i] = order[j];
            order[j] = kept;
        }
        x.clearOrder();
        for (int v : order) {
            x.place(v);
        }
        int least = width + (java.util.Arrays.compare(order, best) < 0 ? 1 : 0);
        holds("another order is no better by " + kind, x.widthOf(kind) >= least);
    }

    private void decomposition(Bramblehall x) {
        holds("a bag for each vertex", x.decompose() == x.size());
        holds("a decomposition", x.check() == '-');
        holds("its width", x.bagWidth() == x.width('t'));
        holds("the nice form has no fewer", x.nice() >= x.size());
    }

    private void hunt(Bramblehall x) {
        int k = x.searchers();
        holds("one more than the tree width", k == x.width('t') + 1);
        int all = (1 << x.size()) - 1;
        for (int set = 0; set <= all; set += 37) {
            if (Integer.bitCount(set) < k) {
                int part = x.haven(k - 1, set);
                holds("a haven is outside", part != 0 && (part & set) == 0 && (part & ~all) == 0);
            }
        }
        int order = x.takeHaven();
        holds("the family's order", order >= 1 && order <= x.size() && order == x.familyOrder());
        holds("no bramble has a greater order", !x.isBramble() || order <= k);
    }

    private boolean touch(int a, int b) {
        for (int v = 0; v < near.length; v++) {
            if ((a >> v & 1) != 0 && (near[v] & b) != 0) {
                return true;
            }
        }
        return false;
    }

    private void models(Bramblehall x, int which) {
        int count = new int[] {3, 4, 5, 6, 5}[which];
        int side = new int[] {0, 0, 0, 3, 2}[which];
        char kind = MINORS.charAt(which);
        if (!x.hasMinor(kind)) {
            return;
        }
        int used = 0;
        for (int i = 0; i < count; i++) {
            int set = x.model(kind, i);
            holds("no vertex twice", (used & set) == 0);
            used |= set;
            holds("it hangs together", x.link(set) == Integer.bitCount(set));
            for (int j = 0; j < i; j++) {
                boolean must = side == 0 || j < side && i >= side;
                holds("joined", !must || touch(set, x.model(kind, j)));
            }
        }
    }

    private void classes(Bramblehall x) {
        holds("forests", x.isIn('f') == x.width('t') <= 1);
        holds("series and parallel", x.isIn('s') == x.width('t') <= 2);
        holds("outerplanar", !x.isIn('o') || x.isIn('s'));
        holds("series and parallel is planar", !x.isIn('s') || x.isIn('p'));
        holds("planar has few edges", !x.isIn('p') || x.edges() <= 3 * x.size() - 6);
        holds("forests by edges", x.isIn('f') == (x.edges() == x.size() - x.parts()));
        holds("apex", x.apex('p') <= x.apex('s') && x.apex('s') <= x.apex('o') && x.apex('o') <= x.apex('f'));
        if (x.size() < 10) {
            Bramblehall hub = made();
            int v = hub.vertex(1);
            for (int w = 0; w < v; w++) {
                hub.edge(v, w, true);
            }
            holds("outerplanar, with a hub planar", hub.isIn('p') == x.isIn('o'));
        }
    }

    private void programs(Bramblehall x) {
        int colours = x.colours();
        holds("enough colours", colours > 9 || x.colourings(colours) > 0);
        holds("fewer are not enough", x.colourings(colours - 1) == 0);
        holds("a ring is one more than a path", x.rings() == 0 || x.longest() == x.size() - 1);
        for (int k = 0; k <= 10; k++) {
            int number = k;
            String kernel = Due.answer(() -> x.kernel(number));
            if (!kernel.startsWith("throws")) {
                boolean all = kernel.equals("0");
                holds("an empty kernel is covered", !all || x.hasCover(k));
            } else {
                holds("what is refused is not covered", !x.hasCover(k));
            }
        }
        x.clause('v', true);
        int cover = x.bestSet();
        holds("a cover", x.hasCover(Integer.bitCount(cover)) && !x.hasCover(Integer.bitCount(cover) - 1 < 0
                ? 0 : Integer.bitCount(cover) - 1) || cover == 0);
        x.clause('v', false);
    }
}
