import java.util.Random;

/** Calls by chance, among them many that are refused. */
final class Calls {
    interface Call {
        Object on(Bramblehall x);
    }

    private static final String LETTERS = "tpcbrdgq345ofsivkex";

    private Calls() {
    }

    static Call any(Random random, int vertices) {
        int v = random.nextInt(vertices + 2) - random.nextInt(2);
        int w = random.nextInt(vertices + 2) - random.nextInt(2);
        int set = random.nextInt(4) == 0 ? random.nextInt(1 << vertices + 1) - 1 : random.nextInt(1 << vertices);
        int k = random.nextInt(14) - 2;
        char letter = LETTERS.charAt(random.nextInt(LETTERS.length()));
        boolean is = random.nextBoolean();
        switch (random.nextInt(5)) {
            case 0:
                return edit(random.nextInt(9), v, w, is);
            case 1:
                return tell(random.nextInt(9), v, set, random.nextInt(23) - 2);
            case 2:
                return tellMore(random.nextInt(9), set, letter, is);
            case 3:
                return ask(random.nextInt(14), set, letter, k);
            default:
                return askMore(random.nextInt(22), v, letter, k);
        }
    }

    private static Call edit(int which, int v, int w, boolean is) {
        switch (which) {
            case 0:
                return x -> v == w ? x.remove(v) : x.neighbours(v);
            case 1:
                return x -> v + w == 3 ? x.contract(v, w) : x.weight(v);
            case 2:
            case 3:
                return x -> x.join(v, w);
            case 4:
                return x -> x.place(v);
            case 5:
                return x -> x.red();
            default:
                return x -> x.edge(v, w, is);
        }
    }

    private static Call tell(int which, int v, int set, int bag) {
        switch (which) {
            case 0:
            case 1:
                return x -> x.place(v);
            case 2:
            case 3:
                return x -> x.bag(set, bag);
            case 4:
            case 5:
                return x -> x.put(set);
            case 6:
                return x -> x.bagAt(bag);
            case 7:
                return x -> x.above(bag);
            default:
                return x -> x.hyperedge(set);
        }
    }

    private static Call tellMore(int which, int set, char letter, boolean is) {
        switch (which) {
            case 0:
                return x -> set == 1 ? x.clearBags() : x.bag(set, -1);
            case 1:
                return x -> set == 1 ? x.clearFamily() : x.put(set);
            case 2:
                return x -> set == 1 ? x.clearHyperedges() : x.hyperedge(set);
            case 3:
                return x -> set == 1 ? x.clearOrder() : x.bag(set, 0);
            case 4:
                return x -> set == 1 ? x.split() : x.bag(set, 1);
            case 5:
                return x -> x.decompose();
            case 6:
                return x -> x.takeHaven();
            default:
                return x -> x.clause(letter, is);
        }
    }

    private static Call ask(int which, int set, char letter, int k) {
        switch (which) {
            case 0:
                return x -> x.width(letter);
            case 1:
            case 2:
                return x -> x.orderAt(letter, k);
            case 3:
            case 4:
                return x -> x.widthOf(letter);
            case 5:
                return x -> x.hasMinor(letter);
            case 6:
            case 7:
                return x -> x.model(letter, k);
            case 8:
                return x -> x.isIn(letter);
            case 9:
                return x -> x.apex(letter);
            case 10:
            case 11:
                return x -> x.haven(k, set);
            default:
                return x -> x.link(set);
        }
    }

    private static Call askMore(int which, int v, char letter, int k) {
        switch (which) {
            case 0:
                return x -> x.win(k);
            case 1:
                return x -> x.kernel(k);
            case 2:
                return x -> x.kernelLeft(k);
            case 3:
                return x -> x.hasCover(k);
            case 4:
                return x -> x.colourings(k);
            case 5:
                return x -> x.nice();
            case 6:
                return x -> x.check();
            case 7:
                return x -> x.bagWidth();
            case 8:
                return x -> x.cover();
            case 9:
                return x -> x.isAcyclic();
            case 10:
                return x -> x.bestSet();
            case 11:
                return x -> x.sets();
            case 12:
                return x -> x.longest();
            case 13:
                return x -> x.density();
            case 14:
                return x -> x.meanDegree();
            case 15:
                return x -> x.isTrue();
            case 16:
                return x -> x.twinWidth();
            case 17:
                return x -> v == 0 ? x.vertex(k * 10) : x.familyOrder();
            case 18:
                return x -> x.isBramble();
            case 19:
                return x -> x.vertex(k > 5 ? k * 20 : -1 - k * k);
            case 20:
                return x -> letter == 't' ? x.rings() : x.colours();
            default:
                return x -> x.searchers();
        }
    }
}
