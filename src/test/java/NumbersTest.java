/**
 * Numbers too small and too large, call by call: the last one that is taken and the first one that is refused, on both
 * sides, and far off, where a number that is wrapped around or shifted would be taken.
 */
public final class NumbersTest {
    private static final Class<?> INDEX = IndexOutOfBoundsException.class;
    private static final Class<?> ARGUMENT = IllegalArgumentException.class;
    private static final Class<?> STATE = IllegalStateException.class;
    private static final Class<?> NONE = java.util.NoSuchElementException.class;
    private static final Class<?> UNSUPPORTED = UnsupportedOperationException.class;
    private static final int[] NUMBERS = Far.numbers();
    private static final int[] SETS = Far.sets();
    /** No vertices; 0, 2 and 3 of four; the first alone; the last of ten; all ten. */
    private static final int[] STANDING = {0, 13, 1, 512, 1023};
    private static final int[] TOLD = {0, 4, 1, 10, 10};

    public static void main(String[] args) {
        weights();
        vertices();
        pairs();
        indices();
        bagsAbove();
        bagNumbers();
        searchers();
        modelIndices();
        colours();
        covers();
        setsOfBags();
        setsOfHavens();
        setsOfFamily();
        setsOfLinks();
        setsOfHyperedges();
        Due.end();
    }

    /** Either the answer or what is thrown. */
    private static void due(String what, Object want, Due.Call call) {
        if (want instanceof Class<?>) {
            Due.fails(what, (Class<?>) want, call);
        } else {
            Due.is(what, want, call);
        }
    }

    /** As many vertices as are told, of which those in the set still stand. */
    private static Bramblehall standing(int told, int set) {
        Bramblehall x = Due.hall(told);
        for (int v = 0; v < told; v++) {
            if ((set & 1 << v) == 0) {
                x.remove(v);
            }
        }
        return x;
    }

    private static void weights() {
        for (int w : NUMBERS) {
            boolean taken = Far.in(w, 0, 99);
            Bramblehall x = new Bramblehall();
            due("2: weight " + w, taken ? 0 : ARGUMENT, () -> x.vertex(w));
            Due.is("2: vertices after " + w, taken ? 1 : 0, () -> x.size());
            due("10: weight " + w, taken ? w : INDEX, () -> x.weight(0));
            due("2: an eleventh of " + w, taken ? STATE : ARGUMENT, () -> Due.hall(10).vertex(w));
        }
    }

    private static void vertices() {
        for (int i = 0; i < STANDING.length; i++) {
            int told = TOLD[i];
            int set = STANDING[i];
            for (int v : NUMBERS) {
                boolean is = Far.among(v, set);
                String what = v + " among " + set;
                due("4: remove " + what, is ? 0 : INDEX, () -> standing(told, set).remove(v));
                due("8: neighbours of " + what, is ? 0 : INDEX, () -> standing(told, set).neighbours(v));
                due("10: weight of " + what, is ? 1 : INDEX, () -> standing(told, set).weight(v));
                due("13: place " + what, is ? 1 : INDEX, () -> standing(told, set).place(v));
            }
        }
    }

    private static void pairs() {
        for (int i = 0; i < STANDING.length; i++) {
            for (int v : NUMBERS) {
                for (int other : new int[] {-1, 0, 1, 3, 9, 10}) {
                    pair(TOLD[i], STANDING[i], v, other);
                    pair(TOLD[i], STANDING[i], other, v);
                }
                pair(TOLD[i], STANDING[i], v, v);
            }
        }
    }

    private static void pair(int told, int set, int v, int other) {
        boolean there = Far.among(v, set) && Far.among(other, set);
        String what = v + ", " + other + " among " + set;
        Object same = v == other ? ARGUMENT : null;
        due("3: edge " + what, !there ? INDEX : same != null ? same : false,
                () -> standing(told, set).edge(v, other, true));
        due("3: no edge " + what, !there ? INDEX : same != null ? same : false,
                () -> standing(told, set).edge(v, other, false));
        due("5: contract " + what, !there ? INDEX : same != null ? same : 0,
                () -> standing(told, set).contract(v, other));
        due("53: join " + what, !there ? INDEX : same != null ? UNSUPPORTED : Integer.bitCount(set) - 1,
                () -> standing(told, set).join(v, other));
    }

    /** Lone vertices stand in the best order by their numbers. */
    private static void indices() {
        for (int i = 0; i < STANDING.length; i++) {
            int told = TOLD[i];
            int set = STANDING[i];
            for (int index : NUMBERS) {
                Object want = Far.in(index, 0, Integer.bitCount(set) - 1) ? nth(set, index) : INDEX;
                for (char kind : "tpcbr".toCharArray()) {
                    due("12: " + kind + " at " + index + " of " + set, want,
                            () -> standing(told, set).orderAt(kind, index));
                }
            }
        }
    }

    private static int nth(int set, int index) {
        int rest = set;
        for (int i = 0; i < index; i++) {
            rest &= rest - 1;
        }
        return Integer.numberOfTrailingZeros(rest);
    }

    private static Bramblehall withBags(int count) {
        Bramblehall x = Due.hall(1);
        for (int i = 0; i < count; i++) {
            x.bag(1, i / 2 - (i == 0 ? 1 : 0));
        }
        return x;
    }

    private static void bagsAbove() {
        for (int count : new int[] {0, 1, 2, 7, 19, 20}) {
            for (int above : NUMBERS) {
                boolean is = count == 0 ? above == -1 : Far.in(above, 0, count - 1);
                due("18: below " + above + " of " + count, !is ? INDEX : count == 20 ? STATE : count,
                        () -> withBags(count).bag(1, above));
                Due.fails("18: 1 is no vertex, below " + above + " of " + count, ARGUMENT,
                        () -> withBags(count).bag(2, above));
            }
        }
    }

    private static void bagNumbers() {
        for (int count : new int[] {0, 1, 2, 19, 20}) {
            for (int bag : NUMBERS) {
                boolean is = Far.in(bag, 0, count - 1);
                due("23: " + bag + " of " + count, is ? 1 : INDEX, () -> withBags(count).bagAt(bag));
                due("24: " + bag + " of " + count, is ? bag == 0 ? -1 : bag / 2 : INDEX,
                        () -> withBags(count).above(bag));
            }
        }
    }

    private static void searchers() {
        for (int k : NUMBERS) {
            boolean is = Far.in(k, 0, 10);
            due("26: " + k + " on nothing", is ? true : ARGUMENT, () -> new Bramblehall().win(k));
            due("26: " + k + " on a ring", is ? k >= 3 : ARGUMENT, () -> Due.ring(5).win(k));
            due("26: " + k + " on a clique", is ? k == 10 : ARGUMENT, () -> Due.clique(10).win(k));
            due("28: " + k + " on nothing", is ? NONE : ARGUMENT, () -> new Bramblehall().haven(k, 0));
            due("28: " + k + " on a ring", !is ? ARGUMENT : k >= 3 ? NONE : 31, () -> Due.ring(5).haven(k, 0));
            due("28: " + k + " on a clique", !is ? ARGUMENT : k == 10 ? NONE : 1023,
                    () -> Due.clique(10).haven(k, 0));
        }
    }

    private static void modelIndices() {
        for (int index : NUMBERS) {
            for (char kind : "345bo".toCharArray()) {
                int sets = kind == 'b' ? 6 : kind == 'o' ? 5 : kind - '0';
                due("35: " + kind + " at " + index, Far.in(index, 0, sets - 1) ? 1 << index : INDEX,
                        () -> Due.clique(6).model(kind, index));
                Due.fails("35: " + kind + " at " + index + " of none", NONE, () -> Due.path(6).model(kind, index));
            }
        }
    }

    private static void colours() {
        for (int k : NUMBERS) {
            boolean is = Far.in(k, 0, 9);
            due("42: nothing by " + k, is ? 1L : ARGUMENT, () -> new Bramblehall().colourings(k));
            due("42: an edge by " + k, is ? (long) k * (k - 1) : ARGUMENT, () -> Due.path(2).colourings(k));
        }
    }

    private static void covers() {
        for (int k : NUMBERS) {
            boolean is = Far.in(k, 0, 10);
            due("46: nothing, " + k, is ? 0 : ARGUMENT, () -> new Bramblehall().kernel(k));
            due("47: nothing, " + k, is ? k : ARGUMENT, () -> new Bramblehall().kernelLeft(k));
            due("48: nothing, " + k, is ? true : ARGUMENT, () -> new Bramblehall().hasCover(k));
            due("46: an edge, " + k, !is ? ARGUMENT : k == 0 ? NONE : 0, () -> Due.path(2).kernel(k));
            due("47: an edge, " + k, !is ? ARGUMENT : k == 0 ? NONE : k - 1, () -> Due.path(2).kernelLeft(k));
            due("48: an edge, " + k, is ? k > 0 : ARGUMENT, () -> Due.path(2).hasCover(k));
            due("48: a clique, " + k, is ? k > 8 : ARGUMENT, () -> Due.clique(10).hasCover(k));
        }
    }

    private static void setsOfBags() {
        for (int i = 0; i < STANDING.length; i++) {
            int told = TOLD[i];
            int all = STANDING[i];
            for (int set : SETS) {
                boolean is = (set & ~all) == 0;
                Bramblehall x = standing(told, all);
                due("18: " + set + " among " + all, is ? 0 : ARGUMENT, () -> x.bag(set, -1));
                due("23: " + set + " among " + all, is ? set : INDEX, () -> x.bagAt(0));
                Due.fails("18: " + set + " among " + all + ", and no such bag", is ? INDEX : ARGUMENT,
                        () -> standing(told, all).bag(set, 0));
            }
        }
    }

    private static void setsOfHavens() {
        Bramblehall ring = Due.ring(6);
        for (int i = 0; i < SETS.length; i++) {
            int set = SETS[i];
            Bramblehall x = i % 200 == 0 ? Due.ring(6) : ring;
            ring = x;
            boolean is = (set & ~63) == 0 && Integer.bitCount(set) <= 2;
            due("28: two on " + set, is ? firstPartOfRing(set) : ARGUMENT, () -> x.haven(2, set));
            Due.fails("28: three on " + set, (set & ~63) == 0 && Integer.bitCount(set) <= 3 ? NONE : ARGUMENT,
                    () -> Due.ring(6).haven(3, set));
            due("28: none on " + set, set == 0 ? 63 : ARGUMENT, () -> Due.ring(6).haven(0, set));
            Due.fails("28: ten on " + set + " of nothing", set == 0 ? NONE : ARGUMENT,
                    () -> new Bramblehall().haven(10, set));
        }
    }

    /** From the lowest vertex that is free, forward and backward around the ring of six. */
    private static int firstPartOfRing(int taken) {
        int first = Integer.numberOfTrailingZeros(~taken);
        int found = 0;
        for (int v = first; (taken & 1 << v % 6) == 0 && v < first + 6; v++) {
            found |= 1 << v % 6;
        }
        for (int v = first + 6; (taken & 1 << v % 6) == 0 && v > first; v--) {
            found |= 1 << v % 6;
        }
        return found;
    }

    private static void setsOfFamily() {
        for (int i = 0; i < STANDING.length; i++) {
            int told = TOLD[i];
            int all = STANDING[i];
            for (int set : SETS) {
                boolean is = set != 0 && (set & ~all) == 0;
                Bramblehall x = standing(told, all);
                due("29: " + set + " among " + all, is ? 1 : ARGUMENT, () -> x.put(set));
                Due.fails("29: " + set + " again among " + all, is ? UNSUPPORTED : ARGUMENT, () -> x.put(set));
                Due.is("30: " + set + " among " + all, is ? 1 : 0, () -> x.clearFamily());
            }
        }
    }

    /** Of lone vertices one alone is linked. */
    private static void setsOfLinks() {
        for (int i = 0; i < STANDING.length; i++) {
            int told = TOLD[i];
            int all = STANDING[i];
            for (int set : SETS) {
                int count = Integer.bitCount(set);
                due("45: " + set + " among " + all, (set & ~all) != 0 ? ARGUMENT : count > 1 ? NONE : count,
                        () -> standing(told, all).link(set));
            }
        }
        for (int set : SETS) {
            due("45: " + set + " of a clique", (set & ~1023) == 0 ? Integer.bitCount(set) : ARGUMENT,
                    () -> Due.clique(10).link(set));
        }
    }

    private static void setsOfHyperedges() {
        for (int i = 0; i < STANDING.length; i++) {
            int told = TOLD[i];
            int all = STANDING[i];
            for (int set : SETS) {
                boolean is = set != 0 && (set & ~all) == 0;
                Bramblehall x = standing(told, all);
                due("49: " + set + " among " + all, is ? 1 : ARGUMENT, () -> x.hyperedge(set));
                due("49: " + set + " again among " + all, is ? 2 : ARGUMENT, () -> x.hyperedge(set));
                Due.is("50: " + set + " among " + all, is ? 2 : 0, () -> x.clearHyperedges());
            }
        }
    }
}
