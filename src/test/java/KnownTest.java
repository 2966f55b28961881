import java.util.Random;

/** Random graphs of up to ten vertices: what is known of their figures must hold between them. */
public final class KnownTest {
    private static final String ORDERED = "tpcbr";
    private static final String MINORS = "345bo";

    public static void main(String[] args) {
        Random random = new Random(7);
        for (int i = 0; i < 400; i++) {
            int n = 7 + random.nextInt(4);
            double likely = random.nextDouble();
            Bramblehall x = Due.hall(n);
            StringBuilder name = new StringBuilder("n " + n + ":");
            for (int v = 0; v < n; v++) {
                for (int w = 0; w < v; w++) {
                    if (random.nextDouble() < likely) {
                        x.edge(v, w, true);
                        name.append(" ").append(w).append("-").append(v);
                    }
                }
            }
            lookAt(name.toString(), x, random);
        }
        Due.end();
    }

    private static void holds(String name, String what, boolean is) {
        Due.say(name + ": " + what, "true", String.valueOf(is));
    }

    private static void lookAt(String name, Bramblehall x, Random random) {
        widths(name, x);
        orders(name, x, random);
        decomposition(name, x);
        hunt(name, x);
        minors(name, x);
        programs(name, x);
        holds(name, "isTrue", x.isTrue());
    }

    private static void widths(String name, Bramblehall x) {
        int t = x.width('t');
        int p = x.width('p');
        holds(name, "lower <= t", x.lower() <= t);
        holds(name, "t <= upper", t <= x.upper());
        holds(name, "t <= p", t <= p);
        holds(name, "p <= c", p <= x.width('c'));
        holds(name, "p <= b", p <= x.width('b'));
        holds(name, "r <= p", x.width('r') <= p);
        holds(name, "p < d", p < x.width('d'));
        holds(name, "g <= t", x.width('g') <= t);
        holds(name, "q <= g + 1", x.width('q') <= x.width('g') + 1);
        holds(name, "q <= colours", x.width('q') <= x.colours());
        holds(name, "colours <= g + 1", x.colours() <= x.width('g') + 1);
        holds(name, "the longest path bounds the depth", x.width('d') <= x.longest() + 1);
    }

    private static void orders(String name, Bramblehall x, Random random) {
        for (char kind : ORDERED.toCharArray()) {
            x.clearOrder();
            for (int i = 0; i < x.size(); i++) {
                x.place(x.orderAt(kind, i));
            }
            holds(name, "the best order has the width " + kind, x.widthOf(kind) == x.width(kind));
            earlierOrders(name, x, kind, random);
        }
    }

    /** Orders ahead of the best one, compared vertex by vertex, are wider; the others not less wide. */
    private static void earlierOrders(String name, Bramblehall x, char kind, Random random) {
        int n = x.size();
        int[] best = new int[n];
        for (int i = 0; i < n; i++) {
            best[i] = x.orderAt(kind, i);
        }
        for (int tried = 0; tried < 40; tried++) {
            int[] order = best.clone();
            int from = random.nextInt(n);
            for (int i = from; i < n; i++) {
                int j = i + random.nextInt(n - i);
                int kept = order[i];
                order[i] = order[j];
                order[j] = kept;
            }
            x.clearOrder();
            for (int v : order) {
                x.place(v);
            }
            int least = x.width(kind) + (java.util.Arrays.compare(order, best) < 0 ? 1 : 0);
            holds(name, "another order is no better by " + kind, x.widthOf(kind) >= least);
        }
    }

    private static void decomposition(String name, Bramblehall x) {
        holds(name, "a bag for each vertex", x.decompose() == x.size());
        holds(name, "a decomposition", x.check() == '-');
        holds(name, "its width", x.bagWidth() == x.width('t'));
        holds(name, "the nice form has no fewer", x.nice() >= x.size());
    }

    private static void hunt(String name, Bramblehall x) {
        int k = x.searchers();
        holds(name, "one more than the tree width", k == x.width('t') + 1);
        int all = (1 << x.size()) - 1;
        for (int set = 0; set <= all; set += 37) {
            if (Integer.bitCount(set) < k) {
                int part = x.haven(k - 1, set);
                holds(name, "a haven is outside", part != 0 && (part & set) == 0 && (part & ~all) == 0);
            }
        }
        int order = x.takeHaven();
        holds(name, "the family's order", order >= 1 && order <= x.size() && order == x.familyOrder());
        holds(name, "no bramble has a greater order", !x.isBramble() || order <= k);
    }

    private static boolean touch(Bramblehall x, int a, int b) {
        for (int v = 0; v < 10; v++) {
            if ((a >> v & 1) != 0 && (x.neighbours(v) & b) != 0) {
                return true;
            }
        }
        return false;
    }

    private static void minors(String name, Bramblehall x) {
        int[] count = {3, 4, 5, 6, 5};
        int[] side = {0, 0, 0, 3, 2};
        for (int k = 0; k < count.length; k++) {
            char kind = MINORS.charAt(k);
            if (x.hasMinor(kind)) {
                int used = 0;
                for (int i = 0; i < count[k]; i++) {
                    int set = x.model(kind, i);
                    holds(name, "no vertex twice", (used & set) == 0);
                    used |= set;
                    holds(name, "it hangs together", x.link(set) == Integer.bitCount(set));
                    for (int j = 0; j < i; j++) {
                        boolean must = side[k] == 0 || j < side[k] && i >= side[k];
                        holds(name, "joined", !must || touch(x, set, x.model(kind, j)));
                    }
                }
            }
        }
        holds(name, "forests", x.isIn('f') == x.width('t') <= 1);
        holds(name, "series and parallel", x.isIn('s') == x.width('t') <= 2);
        holds(name, "outerplanar", !x.isIn('o') || x.isIn('s'));
        holds(name, "series and parallel is planar", !x.isIn('s') || x.isIn('p'));
        holds(name, "planar has few edges", !x.isIn('p') || x.edges() <= 3 * x.size() - 6);
        holds(name, "forests by edges", x.isIn('f') == (x.edges() == x.size() - x.parts()));
        holds(name, "apex", x.apex('p') <= x.apex('s') && x.apex('s') <= x.apex('o') && x.apex('o') <= x.apex('f'));
        Bramblehall hub = copy(x);
        int v = x.size() < 10 ? hub.vertex(1) : -1;
        for (int w = 0; w < v; w++) {
            hub.edge(v, w, true);
        }
        holds(name, "outerplanar, with a hub planar", v < 0 || hub.isIn('p') == x.isIn('o'));
    }

    private static Bramblehall copy(Bramblehall x) {
        Bramblehall y = Due.hall(x.size());
        for (int v = 0; v < x.size(); v++) {
            for (int w = 0; w < v; w++) {
                y.edge(v, w, (x.neighbours(v) >> w & 1) != 0);
            }
        }
        return y;
    }

    private static void programs(String name, Bramblehall x) {
        int colours = x.colours();
        holds(name, "enough colours", colours > 9 || x.colourings(colours) > 0);
        holds(name, "fewer are not enough", x.colourings(colours - 1) == 0);
        holds(name, "a ring is one more than a path", x.rings() == 0 || x.longest() == x.size() - 1);
        for (int k = 0; k <= 10; k++) {
            int number = k;
            String kernel = Due.answer(() -> x.kernel(number));
            if (!kernel.startsWith("throws")) {
                boolean all = kernel.equals("0");
                holds(name, "an empty kernel is covered", !all || x.hasCover(k));
            } else {
                holds(name, "what is refused is not covered", !x.hasCover(k));
            }
        }
        x.clause('v', true);
        int cover = x.bestSet();
        holds(name, "a cover", x.hasCover(Integer.bitCount(cover)) && !x.hasCover(Integer.bitCount(cover) - 1 < 0
                ? 0 : Integer.bitCount(cover) - 1) || cover == 0);
        x.clause('v', false);
    }
}
