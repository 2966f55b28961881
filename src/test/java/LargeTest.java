import java.util.ArrayList;
import java.util.Collections;
import java.util.List;
import java.util.Random;

/** Graphs of 8 to 10 vertices, against what the slow reading can still answer for them. */
public final class LargeTest {
    private final Random random;
    private Bramblehall hall = new Bramblehall();
    private Slow slow = new Slow();
    private String name = "";

    private LargeTest(long seed) {
        this.random = new Random(seed);
    }

    public static void main(String[] args) {
        int times = args.length > 0 ? Integer.parseInt(args[0]) : 1;
        LargeTest test = new LargeTest(11);
        for (int i = 0; i < 300 * times; i++) {
            test.make(8 + i % 3);
            test.quick();
            if (i % 50 == 0) {
                test.minors();
                test.programs();
            }
        }
        Due.end();
    }

    private void make(int n) {
        hall = new Bramblehall();
        slow = new Slow();
        double likely = 0.15 + 0.7 * random.nextDouble();
        StringBuilder text = new StringBuilder("n " + n + ":");
        for (int v = 0; v < n; v++) {
            int weight = random.nextInt(9);
            hall.vertex(weight);
            slow.vertex(weight);
            for (int w = 0; w < v; w++) {
                if (random.nextDouble() < likely) {
                    hall.edge(v, w, true);
                    slow.edge(v, w, true);
                    text.append(" ").append(w).append("-").append(v);
                }
            }
        }
        name = text.toString();
    }

    private void both(String what, Due.Call fast, Due.Call due) {
        Due.say(name + ": " + what, Due.answer(due), Due.answer(fast));
    }

    private void quick() {
        both("lower", () -> hall.lower(), () -> slow.lower());
        both("upper", () -> hall.upper(), () -> slow.upper());
        for (int i = 0; i <= 10; i++) {
            int k = i;
            both("kernel " + k, () -> hall.kernel(k), () -> slow.kernel(k));
            both("kernelLeft " + k, () -> hall.kernelLeft(k), () -> slow.kernelLeft(k));
        }
        List<Integer> order = new ArrayList<>();
        for (int v = 0; v < slow.size(); v++) {
            order.add(v);
        }
        Collections.shuffle(order, random);
        for (int v : order) {
            both("place " + v, () -> hall.place(v), () -> slow.place(v));
        }
        for (char kind : "tpcbr".toCharArray()) {
            both("widthOf " + kind, () -> hall.widthOf(kind), () -> slow.widthOf(kind));
        }
    }

    private void minors() {
        for (char kind : "345bo".toCharArray()) {
            for (int i = 0; i < 6; i++) {
                int index = i;
                both("model " + kind + " " + i, () -> hall.model(kind, index), () -> slow.model(kind, index));
            }
        }
        both("takeHaven", () -> hall.takeHaven(), () -> slow.takeHaven());
        both("isBramble", () -> hall.isBramble(), () -> slow.isBramble());
        both("clearFamily", () -> hall.clearFamily(), () -> slow.clearFamily());
        both("depth", () -> hall.width('d'), () -> slow.width('d'));
        both("core", () -> hall.width('g'), () -> slow.width('g'));
        both("clique", () -> hall.width('q'), () -> slow.width('q'));
    }

    private void programs() {
        for (char kind : "icdvke".toCharArray()) {
            boolean is = random.nextInt(3) == 0;
            hall.clause(kind, is);
            slow.clause(kind, is);
        }
        both("sets", () -> hall.sets(), () -> slow.sets());
        both("bestSet", () -> hall.bestSet(), () -> slow.bestSet());
        both("longest", () -> hall.longest(), () -> slow.longest());
        both("colours", () -> hall.colours(), () -> slow.colours());
        both("colourings", () -> hall.colourings(4), () -> slow.colourings(4));
        int set = random.nextInt(256) & random.nextInt(256);
        both("link " + set, () -> hall.link(set), () -> slow.link(set));
        both("hasCover", () -> hall.hasCover(5), () -> slow.hasCover(5));
    }
}
