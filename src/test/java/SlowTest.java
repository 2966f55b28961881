import java.util.Random;

/** Random runs of calls, answered by the program and by the slow reading of the document alike. */
public final class SlowTest {
    private static final String KINDS = "tpcbrdgq345bofsopicdvkexT2-";
    private final Random random;
    private final int most;
    private Bramblehall hall = new Bramblehall();
    private Slow slow = new Slow();
    private final StringBuilder run = new StringBuilder();
    private int runNumber;
    private int callsMade;
    private int told;

    private SlowTest(long seed, int most) {
        this.random = new Random(seed);
        this.most = most;
    }

    public static void main(String[] args) {
        int times = args.length > 0 ? Integer.parseInt(args[0]) : 1;
        new SlowTest(1, 3).runs(60 * times, 90);
        new SlowTest(2, 4).runs(60 * times, 120);
        new SlowTest(3, 5).runs(60 * times, 150);
        new SlowTest(4, 6).runs(30 * times, 200);
        new SlowTest(5, 7).runs(2 * times, 120);
        new SlowTest(6, 4).ofTen(60 * times, 150);
        new SlowTest(7, 5).ofTen(60 * times, 150);
        new SlowTest(8, 6).ofTen(20 * times, 150);
        Due.end();
    }

    private void runs(int count, int calls) {
        for (int i = 0; i < count; i++) {
            begin(i);
            double likely = random.nextDouble();
            int first = random.nextInt(most + 1);
            for (int v = 0; v < first; v++) {
                tellVertex();
                for (int w = 0; w < v; w++) {
                    tellEdge(v, w, likely);
                }
            }
            for (int c = 0; c < calls; c++) {
                call();
            }
        }
    }

    /** Ten are told, of which some are left, so that the highest numbers are among them. */
    private void ofTen(int count, int calls) {
        for (int i = 0; i < count; i++) {
            begin(i);
            double likely = random.nextDouble();
            for (int v = 0; v < 10; v++) {
                tellVertex();
            }
            for (int left = 10; left > most; left = slow.size()) {
                int gone = random.nextInt(10);
                both("remove(" + gone + ")", () -> hall.remove(gone), () -> slow.remove(gone));
            }
            for (int v = 0; v < 10; v++) {
                for (int w = 0; w < v; w++) {
                    tellEdge(v, w, likely);
                }
            }
            for (int c = 0; c < calls; c++) {
                call();
            }
        }
    }

    private void begin(int number) {
        runNumber = number;
        hall = new Bramblehall();
        slow = new Slow();
        run.setLength(0);
        callsMade = 0;
        told = 0;
    }

    private void tellVertex() {
        int weight = random.nextInt(5);
        both("vertex(" + weight + ")", () -> hall.vertex(weight), () -> slow.vertex(weight));
        told++;
    }

    private void tellEdge(int v, int w, double likely) {
        if (random.nextDouble() < likely) {
            both("edge(" + v + "," + w + ",true)", () -> hall.edge(v, w, true), () -> slow.edge(v, w, true));
        }
    }

    /** What is answered beyond 512 calls is free. */
    private void both(String what, Due.Call fast, Due.Call due) {
        callsMade++;
        if (callsMade > 512) {
            return;
        }
        run.append(what).append(' ');
        Due.say("most " + most + " run " + runNumber + ": " + run, Due.answer(due), Due.answer(fast));
    }

    private int vertex() {
        int likely = told == 10 ? 10 : Math.min(10, most + 2);
        return random.nextInt(12) == 0 ? random.nextInt(14) - 2 : random.nextInt(likely);
    }

    private int set() {
        int alive = 0;
        for (int v = 0; v < 10; v++) {
            int bit = v;
            if (!Due.answer(() -> slow.weight(bit)).startsWith("throws")) {
                alive |= 1 << v;
            }
        }
        int pick = random.nextInt(1024) & alive;
        switch (random.nextInt(14)) {
            case 0:
                return random.nextInt(1024);
            case 1:
                return random.nextInt();
            case 2:
                return pick | 1 << random.nextInt(32);
            case 3:
                return 0;
            default:
                return random.nextBoolean() ? pick : pick & random.nextInt(1024);
        }
    }

    private char kind(String likely) {
        String from = random.nextInt(15) == 0 ? KINDS : likely;
        return from.charAt(random.nextInt(from.length()));
    }

    private int small(int high) {
        return random.nextInt(10) == 0 ? random.nextInt(high + 6) - 3 : random.nextInt(high + 1);
    }

    private void call() {
        switch (random.nextInt(8)) {
            case 0:
            case 1:
                edit();
                break;
            case 2:
                widths();
                break;
            case 3:
                bags();
                break;
            case 4:
                hunt();
                break;
            case 5:
                minors();
                break;
            case 6:
                programs();
                break;
            default:
                hyper();
                break;
        }
    }

    private void edit() {
        int v = vertex();
        int w = vertex();
        boolean is = random.nextInt(3) != 0;
        int weight = random.nextInt(8) == 0 ? random.nextInt(300) - 100 : random.nextInt(4);
        switch (random.nextInt(16)) {
            case 0:
            case 1:
                if (slow.size() < most || weight < 0 || weight > 99) {
                    both("vertex(" + weight + ")", () -> hall.vertex(weight), () -> slow.vertex(weight));
                }
                break;
            case 2:
                both("remove(" + v + ")", () -> hall.remove(v), () -> slow.remove(v));
                break;
            case 3:
                both("contract(" + v + "," + w + ")", () -> hall.contract(v, w), () -> slow.contract(v, w));
                break;
            case 4:
                both("size", () -> hall.size(), () -> slow.size());
                both("edges", () -> hall.edges(), () -> slow.edges());
                break;
            case 5:
                both("neighbours(" + v + ")", () -> hall.neighbours(v), () -> slow.neighbours(v));
                break;
            case 6:
                both("parts", () -> hall.parts(), () -> slow.parts());
                break;
            case 7:
                both("weight(" + v + ")", () -> hall.weight(v), () -> slow.weight(v));
                break;
            default:
                both("edge(" + v + "," + w + "," + is + ")", () -> hall.edge(v, w, is), () -> slow.edge(v, w, is));
                break;
        }
    }

    private void widths() {
        int v = vertex();
        switch (random.nextInt(9)) {
            case 0:
            case 1: {
                char kind = kind("tpcbrdgq");
                both("width(" + kind + ")", () -> hall.width(kind), () -> slow.width(kind));
                break;
            }
            case 2: {
                char kind = kind("tpcbr");
                int index = random.nextInt(most + 2) - 1;
                both("orderAt(" + kind + "," + index + ")", () -> hall.orderAt(kind, index),
                        () -> slow.orderAt(kind, index));
                break;
            }
            case 3:
            case 4:
                both("place(" + v + ")", () -> hall.place(v), () -> slow.place(v));
                break;
            case 5:
                for (int u = 0; u < 10; u++) {
                    int next = (u * 3 + v + 20) % 10;
                    both("place(" + next + ")", () -> hall.place(next), () -> slow.place(next));
                }
                widthsOfOrder();
                break;
            case 6:
                both("clearOrder", () -> hall.clearOrder(), () -> slow.clearOrder());
                break;
            case 7:
                widthsOfOrder();
                break;
            default:
                both("lower", () -> hall.lower(), () -> slow.lower());
                both("upper", () -> hall.upper(), () -> slow.upper());
                break;
        }
    }

    private void widthsOfOrder() {
        char kind = kind("tpcbr");
        both("widthOf(" + kind + ")", () -> hall.widthOf(kind), () -> slow.widthOf(kind));
    }

    private void bags() {
        int set = set();
        int bag = random.nextInt(9) - 2;
        switch (random.nextInt(14)) {
            case 0:
                if (random.nextInt(3) == 0) {
                    both("clearBags", () -> hall.clearBags(), () -> slow.clearBags());
                }
                break;
            case 1:
                both("decompose", () -> hall.decompose(), () -> slow.decompose());
                both("check", () -> hall.check(), () -> slow.check());
                break;
            case 2:
            case 3:
                both("check", () -> hall.check(), () -> slow.check());
                break;
            case 4:
                both("bagWidth", () -> hall.bagWidth(), () -> slow.bagWidth());
                break;
            case 5:
            case 6:
                both("bagAt(" + bag + ")", () -> hall.bagAt(bag), () -> slow.bagAt(bag));
                both("above(" + bag + ")", () -> hall.above(bag), () -> slow.above(bag));
                break;
            case 7:
            case 8:
                both("nice", () -> hall.nice(), () -> slow.nice());
                break;
            default:
                both("bag(" + set + "," + bag + ")", () -> hall.bag(set, bag), () -> slow.bag(set, bag));
                break;
        }
    }

    private void hunt() {
        int set = set();
        int k = small(most);
        switch (random.nextInt(11)) {
            case 0:
                both("win(" + k + ")", () -> hall.win(k), () -> slow.win(k));
                break;
            case 1:
                both("searchers", () -> hall.searchers(), () -> slow.searchers());
                break;
            case 2:
            case 3: {
                int few = random.nextInt(3);
                both("haven(" + few + "," + set + ")", () -> hall.haven(few, set), () -> slow.haven(few, set));
                both("haven(" + k + "," + set + ")", () -> hall.haven(k, set), () -> slow.haven(k, set));
                break;
            }
            case 4:
                both("clearFamily", () -> hall.clearFamily(), () -> slow.clearFamily());
                break;
            case 5:
                both("isBramble", () -> hall.isBramble(), () -> slow.isBramble());
                break;
            case 6:
                both("familyOrder", () -> hall.familyOrder(), () -> slow.familyOrder());
                break;
            case 7:
                both("takeHaven", () -> hall.takeHaven(), () -> slow.takeHaven());
                both("isBramble", () -> hall.isBramble(), () -> slow.isBramble());
                break;
            default:
                both("put(" + set + ")", () -> hall.put(set), () -> slow.put(set));
                break;
        }
    }

    private void minors() {
        char minor = kind("345bo");
        char group = kind("fsop");
        int index = random.nextInt(8) - 1;
        switch (random.nextInt(4)) {
            case 0:
                both("hasMinor(" + minor + ")", () -> hall.hasMinor(minor), () -> slow.hasMinor(minor));
                break;
            case 1:
                both("model(" + minor + "," + index + ")", () -> hall.model(minor, index),
                        () -> slow.model(minor, index));
                break;
            case 2:
                both("isIn(" + group + ")", () -> hall.isIn(group), () -> slow.isIn(group));
                break;
            default:
                both("apex(" + group + ")", () -> hall.apex(group), () -> slow.apex(group));
                break;
        }
    }

    private void programs() {
        char kind = kind("icdvke");
        boolean is = random.nextBoolean();
        int set = set();
        int k = small(5);
        switch (random.nextInt(13)) {
            case 0:
            case 1:
                both("clause(" + kind + "," + is + ")", () -> hall.clause(kind, is), () -> slow.clause(kind, is));
                break;
            case 2:
            case 3:
                both("sets", () -> hall.sets(), () -> slow.sets());
                break;
            case 4:
            case 5:
                both("bestSet", () -> hall.bestSet(), () -> slow.bestSet());
                break;
            case 6:
                both("colours", () -> hall.colours(), () -> slow.colours());
                break;
            case 7:
                both("colourings(" + k + ")", () -> hall.colourings(k), () -> slow.colourings(k));
                break;
            case 8:
                both("rings", () -> hall.rings(), () -> slow.rings());
                break;
            case 9:
                both("longest", () -> hall.longest(), () -> slow.longest());
                break;
            case 10:
                both("link(" + set + ")", () -> hall.link(set), () -> slow.link(set));
                break;
            case 11:
                both("kernel(" + k + ")", () -> hall.kernel(k), () -> slow.kernel(k));
                both("kernelLeft(" + k + ")", () -> hall.kernelLeft(k), () -> slow.kernelLeft(k));
                break;
            default:
                both("hasCover(" + k + ")", () -> hall.hasCover(k), () -> slow.hasCover(k));
                break;
        }
    }

    private void hyper() {
        int set = set();
        int v = vertex();
        int w = vertex();
        switch (random.nextInt(18)) {
            case 0:
            case 1:
            case 2:
            case 3:
                both("hyperedge(" + set + ")", () -> hall.hyperedge(set), () -> slow.hyperedge(set));
                break;
            case 4:
                if (random.nextInt(3) == 0) {
                    both("clearHyperedges", () -> hall.clearHyperedges(), () -> slow.clearHyperedges());
                }
                break;
            case 5:
            case 6:
                both("isAcyclic", () -> hall.isAcyclic(), () -> slow.isAcyclic());
                break;
            case 7:
            case 8:
                both("cover", () -> hall.cover(), () -> slow.cover());
                break;
            case 9:
            case 10:
            case 11:
                both("join(" + v + "," + w + ")", () -> hall.join(v, w), () -> slow.join(v, w));
                both("red", () -> hall.red(), () -> slow.red());
                break;
            case 12:
                both("split", () -> hall.split(), () -> slow.split());
                break;
            case 13:
                both("red", () -> hall.red(), () -> slow.red());
                break;
            case 14:
                both("twinWidth", () -> hall.twinWidth(), () -> slow.twinWidth());
                break;
            case 15:
                both("density", () -> hall.density(), () -> slow.density());
                break;
            case 16:
                both("meanDegree", () -> hall.meanDegree(), () -> slow.meanDegree());
                break;
            default:
                both("isTrue", () -> hall.isTrue(), () -> slow.isTrue());
                break;
        }
    }
}
