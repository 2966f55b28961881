/** All that a hall answers, put into one text, so that two halls can be compared; what has been told is used up. */
final class Look {
    private static final String CLAUSES = "icdvke";
    private final Bramblehall hall;
    private final StringBuilder text = new StringBuilder();

    private Look(Bramblehall hall) {
        this.hall = hall;
    }

    /** Some four hundred calls for six vertices that have been told. */
    static String at(Bramblehall hall, int told) {
        Look look = new Look(hall);
        look.graph();
        look.widths();
        look.bags();
        look.hunt();
        look.minors();
        look.programs();
        look.figures();
        look.order(told);
        look.hyperedges(told);
        look.family(told);
        look.clauses();
        look.parts(told);
        look.put("vertex", () -> hall.vertex(7));
        return look.text.toString();
    }

    private void put(String what, Due.Call call) {
        text.append(what).append(' ').append(Due.answer(call)).append('\n');
    }

    private void graph() {
        put("size", () -> hall.size());
        put("edges", () -> hall.edges());
        put("parts", () -> hall.parts());
        for (int i = 0; i < 10; i++) {
            int v = i;
            put("neighbours " + v, () -> hall.neighbours(v));
            put("weight " + v, () -> hall.weight(v));
        }
    }

    private void widths() {
        for (char kind : "tpcbrdgq".toCharArray()) {
            put("width " + kind, () -> hall.width(kind));
        }
        for (char kind : "tpcbr".toCharArray()) {
            put("widthOf " + kind, () -> hall.widthOf(kind));
            put("first of " + kind, () -> hall.orderAt(kind, 0));
            put("second of " + kind, () -> hall.orderAt(kind, 1));
            put("last of " + kind, () -> hall.orderAt(kind, hall.size() - 1));
        }
        put("lower", () -> hall.lower());
        put("upper", () -> hall.upper());
    }

    private void bags() {
        put("check", () -> hall.check());
        put("bagWidth", () -> hall.bagWidth());
        put("nice", () -> hall.nice());
        put("cover", () -> hall.cover());
        put("isAcyclic", () -> hall.isAcyclic());
        for (int i = 0; i < 20; i++) {
            int bag = i;
            put("bag " + i, () -> hall.bagAt(bag));
            put("above " + i, () -> hall.above(bag));
        }
    }

    private void hunt() {
        put("searchers", () -> hall.searchers());
        put("win", () -> hall.win(2));
        put("haven", () -> hall.haven(1, 0));
        put("isBramble", () -> hall.isBramble());
        put("familyOrder", () -> hall.familyOrder());
    }

    private void minors() {
        for (char kind : "345bo".toCharArray()) {
            put("model " + kind, () -> hall.model(kind, 2));
        }
        for (char kind : "fsop".toCharArray()) {
            put("apex " + kind, () -> hall.apex(kind));
        }
    }

    private void programs() {
        put("sets", () -> hall.sets());
        put("bestSet", () -> hall.bestSet());
        put("colours", () -> hall.colours());
        put("colourings", () -> hall.colourings(4));
        put("rings", () -> hall.rings());
        put("longest", () -> hall.longest());
        put("kernel", () -> hall.kernel(3));
        put("kernelLeft", () -> hall.kernelLeft(3));
        put("hasCover", () -> hall.hasCover(2));
    }

    private void figures() {
        put("red", () -> hall.red());
        put("twinWidth", () -> hall.twinWidth());
        put("density", () -> hall.density());
        put("meanDegree", () -> hall.meanDegree());
        put("isTrue", () -> hall.isTrue());
    }

    /** What the order lacks is put behind it, so that its widths tell how the others stand. */
    private void order(int told) {
        for (int i = 0; i < told; i++) {
            int v = i;
            put("place " + v, () -> hall.place(v));
        }
        for (char kind : "tpcbr".toCharArray()) {
            put("widthOf whole " + kind, () -> hall.widthOf(kind));
        }
        put("clearOrder", () -> hall.clearOrder());
    }

    /** Bags of one and of two vertices tell what is in the hyperedges. */
    private void hyperedges(int told) {
        put("clearBags", () -> hall.clearBags());
        for (int i = 0; i < told; i++) {
            for (int j = 0; j <= i; j++) {
                int set = 1 << i | 1 << j;
                put("bag of " + set, () -> hall.bag(set, -1));
                put("cover of " + set, () -> hall.cover());
                put("bags " + set, () -> hall.clearBags());
            }
        }
        put("clearHyperedges", () -> hall.clearHyperedges());
    }

    /** Whether a set is there is told ahead of there being 60. */
    private void family(int told) {
        for (int i = 1; i < 1 << told; i++) {
            int set = i;
            put("put " + set, () -> hall.put(set));
        }
        put("clearFamily", () -> hall.clearFamily());
    }

    private void clauses() {
        for (char kind : CLAUSES.toCharArray()) {
            put("clause " + kind, () -> hall.clause(kind, false));
        }
    }

    private void parts(int told) {
        for (int i = 1; i < told; i++) {
            int v = i;
            put("join " + v, () -> hall.join(v - 1, v));
            put("red " + v, () -> hall.red());
        }
        put("split", () -> hall.split());
    }
}
