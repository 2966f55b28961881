import java.util.ArrayList;
import java.util.Arrays;
import java.util.Collections;
import java.util.HashMap;
import java.util.HashSet;
import java.util.List;
import java.util.Map;
import java.util.NoSuchElementException;
import java.util.Set;
import java.util.TreeSet;

/** The document read word by word, with lists and sets and every order tried: slow, and for small graphs alone. */
final class Slow {
    private final List<Integer> weights = new ArrayList<>();
    private final TreeSet<Integer> alive = new TreeSet<>();
    private boolean[][] tied = new boolean[10][10];
    private final List<Integer> told = new ArrayList<>();
    private final List<TreeSet<Integer>> bags = new ArrayList<>();
    private final List<Integer> tops = new ArrayList<>();
    private final List<TreeSet<Integer>> family = new ArrayList<>();
    private final Set<Character> clauses = new HashSet<>();
    private final List<TreeSet<Integer>> hyperedges = new ArrayList<>();
    private List<TreeSet<Integer>> parts = new ArrayList<>();

    // ---- small words

    private static int number(Set<Integer> set) {
        int sum = 0;
        for (int v : set) {
            sum += 1 << v;
        }
        return sum;
    }

    private static TreeSet<Integer> set(int number) {
        TreeSet<Integer> found = new TreeSet<>();
        for (int v = 0; v < 32; v++) {
            if ((number >>> v & 1) != 0) {
                found.add(v);
            }
        }
        return found;
    }

    private List<TreeSet<Integer>> subsets(Set<Integer> of) {
        List<TreeSet<Integer>> found = new ArrayList<>();
        for (int i = 0; i < 1024; i++) {
            TreeSet<Integer> s = set(i);
            if (of.containsAll(s)) {
                found.add(s);
            }
        }
        return found;
    }

    private static TreeSet<Integer> minus(Set<Integer> a, Set<Integer> b) {
        TreeSet<Integer> found = new TreeSet<>(a);
        found.removeAll(b);
        return found;
    }

    private static TreeSet<Integer> one(int v) {
        return new TreeSet<>(Set.of(v));
    }

    private TreeSet<Integer> nextTo(int v) {
        TreeSet<Integer> found = new TreeSet<>();
        for (int w : alive) {
            if (tied[v][w]) {
                found.add(w);
            }
        }
        return found;
    }

    private TreeSet<Integer> beside(Set<Integer> s) {
        TreeSet<Integer> found = new TreeSet<>();
        for (int v : s) {
            found.addAll(nextTo(v));
        }
        found.removeAll(s);
        return found;
    }

    /** The parts of a set, by their lowest vertices. */
    private List<TreeSet<Integer>> partsOf(Set<Integer> s) {
        List<TreeSet<Integer>> found = new ArrayList<>();
        TreeSet<Integer> seen = new TreeSet<>();
        for (int v : new TreeSet<>(s)) {
            if (seen.add(v)) {
                TreeSet<Integer> part = one(v);
                List<Integer> queue = new ArrayList<>(part);
                for (int i = 0; i < queue.size(); i++) {
                    for (int w : nextTo(queue.get(i))) {
                        if (s.contains(w) && part.add(w)) {
                            queue.add(w);
                        }
                    }
                }
                seen.addAll(part);
                found.add(part);
            }
        }
        return found;
    }

    private boolean hangs(Set<Integer> s) {
        return partsOf(s).size() <= 1;
    }

    private void needVertex(int v) {
        if (!alive.contains(v)) {
            throw new IndexOutOfBoundsException();
        }
    }

    private TreeSet<Integer> needSet(int number) {
        TreeSet<Integer> s = set(number);
        if (!alive.containsAll(s)) {
            throw new IllegalArgumentException();
        }
        return s;
    }

    private static void need(boolean is) {
        if (!is) {
            throw new IllegalArgumentException();
        }
    }

    private void gone(int v) {
        alive.remove(v);
        for (int w = 0; w < 10; w++) {
            tied[v][w] = false;
            tied[w][v] = false;
        }
        told.remove(Integer.valueOf(v));
        for (TreeSet<Integer> b : bags) {
            b.remove(v);
        }
        for (TreeSet<Integer> h : hyperedges) {
            h.remove(v);
        }
        family.clear();
        split();
    }

    // ---- the graph

    int vertex(int weight) {
        need(weight >= 0 && weight <= 99);
        if (weights.size() == 10) {
            throw new IllegalStateException();
        }
        weights.add(weight);
        int v = weights.size() - 1;
        alive.add(v);
        parts.add(one(v));
        return v;
    }

    boolean edge(int v, int w, boolean is) {
        needVertex(v);
        needVertex(w);
        need(v != w);
        boolean was = tied[v][w];
        tied[v][w] = is;
        tied[w][v] = is;
        if (was != is) {
            split();
        }
        return was;
    }

    int remove(int v) {
        needVertex(v);
        int had = nextTo(v).size();
        gone(v);
        return had;
    }

    int contract(int v, int w) {
        needVertex(v);
        needVertex(w);
        need(v != w);
        for (int u : nextTo(v)) {
            if (u != w) {
                tied[u][w] = true;
                tied[w][u] = true;
            }
        }
        weights.set(w, weights.get(w) + weights.get(v));
        gone(v);
        return nextTo(w).size();
    }

    int size() {
        return alive.size();
    }

    int edges() {
        int found = 0;
        for (int v : alive) {
            for (int w : alive) {
                if (v < w && tied[v][w]) {
                    found++;
                }
            }
        }
        return found;
    }

    int neighbours(int v) {
        needVertex(v);
        return number(nextTo(v));
    }

    int parts() {
        return partsOf(alive).size();
    }

    int weight(int v) {
        needVertex(v);
        return weights.get(v);
    }

    // ---- widths and orders

    private void orders(List<Integer> begun, List<List<Integer>> into) {
        if (begun.size() == alive.size()) {
            into.add(new ArrayList<>(begun));
            return;
        }
        for (int v : alive) {
            if (!begun.contains(v)) {
                begun.add(v);
                orders(begun, into);
                begun.remove(begun.size() - 1);
            }
        }
    }

    private List<TreeSet<Integer>> eliminated(List<Integer> order) {
        boolean[][] now = copyOfTied();
        TreeSet<Integer> left = new TreeSet<>(alive);
        List<TreeSet<Integer>> rings = new ArrayList<>();
        for (int v : order) {
            rings.add(eliminate(now, left, v));
        }
        return rings;
    }

    private boolean[][] copyOfTied() {
        boolean[][] now = new boolean[10][];
        for (int i = 0; i < 10; i++) {
            now[i] = tied[i].clone();
        }
        return now;
    }

    private static TreeSet<Integer> eliminate(boolean[][] now, TreeSet<Integer> left, int v) {
        left.remove(v);
        TreeSet<Integer> ring = new TreeSet<>();
        for (int w : left) {
            if (now[v][w]) {
                ring.add(w);
            }
        }
        for (int a : ring) {
            for (int b : ring) {
                if (a != b) {
                    now[a][b] = true;
                }
            }
        }
        return ring;
    }

    private int rank(List<Integer> front, List<Integer> back) {
        List<boolean[]> rows = new ArrayList<>();
        for (int v : front) {
            boolean[] row = new boolean[back.size()];
            for (int i = 0; i < row.length; i++) {
                row[i] = tied[v][back.get(i)];
            }
            rows.add(row);
        }
        int rank = 0;
        for (int column = 0; column < back.size(); column++) {
            for (int i = rank; i < rows.size(); i++) {
                if (rows.get(i)[column]) {
                    Collections.swap(rows, i, rank);
                    for (int j = 0; j < rows.size(); j++) {
                        if (j != rank && rows.get(j)[column]) {
                            for (int c = 0; c < back.size(); c++) {
                                rows.get(j)[c] ^= rows.get(rank)[c];
                            }
                        }
                    }
                    rank++;
                    break;
                }
            }
        }
        return rank;
    }

    private int widthBy(char kind, List<Integer> order) {
        int most = 0;
        if (kind == 't') {
            for (TreeSet<Integer> ring : eliminated(order)) {
                most = Math.max(most, ring.size());
            }
            return most;
        }
        for (int i = 0; i <= order.size(); i++) {
            List<Integer> front = order.subList(0, i);
            List<Integer> back = order.subList(i, order.size());
            int count = 0;
            for (int v : front) {
                int across = 0;
                for (int w : back) {
                    if (tied[v][w]) {
                        across++;
                        if (kind == 'b') {
                            most = Math.max(most, order.indexOf(w) - order.indexOf(v));
                        }
                    }
                }
                count += kind == 'c' ? across : kind == 'p' && across > 0 ? 1 : 0;
            }
            most = Math.max(most, kind == 'r' ? rank(front, back) : count);
        }
        return most;
    }

    private List<Integer> best(char kind) {
        List<List<Integer>> all = new ArrayList<>();
        orders(new ArrayList<>(), all);
        List<Integer> found = null;
        int least = 0;
        for (List<Integer> order : all) {
            int width = widthBy(kind, order);
            if (found == null || width < least) {
                found = order;
                least = width;
            }
        }
        return found;
    }

    private int depth(TreeSet<Integer> s) {
        if (s.isEmpty()) {
            return 0;
        }
        List<TreeSet<Integer>> ps = partsOf(s);
        int found = ps.size() == 1 ? 99 : 0;
        if (ps.size() == 1) {
            for (int v : s) {
                found = Math.min(found, 1 + depth(minus(s, one(v))));
            }
        } else {
            for (TreeSet<Integer> p : ps) {
                found = Math.max(found, depth(p));
            }
        }
        return found;
    }

    private int degreeIn(int v, Set<Integer> s) {
        TreeSet<Integer> near = nextTo(v);
        near.retainAll(s);
        return near.size();
    }

    private int core() {
        TreeSet<Integer> left = new TreeSet<>(alive);
        int most = 0;
        while (!left.isEmpty()) {
            int least = left.first();
            for (int v : left) {
                if (degreeIn(v, left) < degreeIn(least, left)) {
                    least = v;
                }
            }
            most = Math.max(most, degreeIn(least, left));
            left.remove(least);
        }
        return most;
    }

    private boolean allTied(Set<Integer> s) {
        for (int v : s) {
            for (int w : s) {
                if (v != w && !tied[v][w]) {
                    return false;
                }
            }
        }
        return true;
    }

    private boolean noneTied(Set<Integer> s) {
        for (int v : s) {
            for (int w : s) {
                if (tied[v][w]) {
                    return false;
                }
            }
        }
        return true;
    }

    int width(char kind) {
        need("tpcbrdgq".indexOf(kind) >= 0);
        if (kind == 'd') {
            return depth(alive);
        }
        if (kind == 'g') {
            return core();
        }
        if (kind == 'q') {
            int most = 0;
            for (TreeSet<Integer> s : subsets(alive)) {
                most = allTied(s) ? Math.max(most, s.size()) : most;
            }
            return most;
        }
        return widthBy(kind, best(kind));
    }

    int orderAt(char kind, int index) {
        need("tpcbr".indexOf(kind) >= 0);
        if (index < 0 || index >= alive.size()) {
            throw new IndexOutOfBoundsException();
        }
        return best(kind).get(index);
    }

    int place(int v) {
        needVertex(v);
        if (told.contains(v)) {
            throw new UnsupportedOperationException();
        }
        told.add(v);
        return told.size();
    }

    int clearOrder() {
        int had = told.size();
        told.clear();
        return had;
    }

    int widthOf(char kind) {
        need("tpcbr".indexOf(kind) >= 0);
        if (!told.containsAll(alive)) {
            throw new UnsupportedOperationException();
        }
        return widthBy(kind, told);
    }

    int lower() {
        boolean[][] now = copyOfTied();
        TreeSet<Integer> left = new TreeSet<>(alive);
        int most = 0;
        while (true) {
            int v = -1;
            for (int w : left) {
                if (deg(now, left, w) > 0 && (v < 0 || deg(now, left, w) < deg(now, left, v))) {
                    v = w;
                }
            }
            if (v < 0) {
                return most;
            }
            most = Math.max(most, deg(now, left, v));
            int into = -1;
            for (int w : left) {
                if (now[v][w] && (into < 0 || deg(now, left, w) < deg(now, left, into))) {
                    into = w;
                }
            }
            for (int w : left) {
                if (now[v][w] && w != into) {
                    now[w][into] = true;
                    now[into][w] = true;
                }
            }
            left.remove(v);
        }
    }

    private static int deg(boolean[][] now, Set<Integer> left, int v) {
        int found = 0;
        for (int w : left) {
            if (now[v][w]) {
                found++;
            }
        }
        return found;
    }

    int upper() {
        boolean[][] now = copyOfTied();
        TreeSet<Integer> left = new TreeSet<>(alive);
        int most = 0;
        while (!left.isEmpty()) {
            int[] best = null;
            for (int v : left) {
                int lack = 0;
                for (int a : left) {
                    for (int b : left) {
                        if (a < b && now[v][a] && now[v][b] && !now[a][b]) {
                            lack++;
                        }
                    }
                }
                int[] price = {lack, deg(now, left, v), v};
                if (best == null || Arrays.compare(price, best) < 0) {
                    best = price;
                }
            }
            most = Math.max(most, best[1]);
            eliminate(now, left, best[2]);
        }
        return most;
    }

    // ---- decompositions

    int bag(int vertices, int above) {
        TreeSet<Integer> s = needSet(vertices);
        boolean fits = above == -1 ? bags.isEmpty() : above >= 0 && above < bags.size();
        if (!fits) {
            throw new IndexOutOfBoundsException();
        }
        if (bags.size() == 20) {
            throw new IllegalStateException();
        }
        bags.add(s);
        tops.add(above);
        return bags.size() - 1;
    }

    int clearBags() {
        int had = bags.size();
        bags.clear();
        tops.clear();
        return had;
    }

    int decompose() {
        List<Integer> order = best('t');
        List<TreeSet<Integer>> rings = eliminated(order);
        clearBags();
        for (int i = order.size() - 1; i >= 0; i--) {
            TreeSet<Integer> content = new TreeSet<>(rings.get(i));
            content.add(order.get(i));
            int top = bags.size() - 1;
            for (int j = order.size() - 1; j >= 0; j--) {
                if (rings.get(i).contains(order.get(j))) {
                    top = order.size() - 1 - j;
                }
            }
            bags.add(content);
            tops.add(top);
        }
        return bags.size();
    }

    char check() {
        for (int v : alive) {
            if (bags.stream().noneMatch(b -> b.contains(v))) {
                return 'v';
            }
        }
        for (int v : alive) {
            for (int w : nextTo(v)) {
                if (bags.stream().noneMatch(b -> b.contains(v) && b.contains(w))) {
                    return 'e';
                }
            }
        }
        for (int v : alive) {
            if (!bagsHang(v)) {
                return 'c';
            }
        }
        return '-';
    }

    private boolean bagsHang(int v) {
        List<Integer> reached = new ArrayList<>();
        int having = 0;
        for (int i = 0; i < bags.size(); i++) {
            if (bags.get(i).contains(v)) {
                having++;
                if (reached.isEmpty()) {
                    reached.add(i);
                }
            }
        }
        for (int at = 0; at < reached.size(); at++) {
            for (int i = 0; i < bags.size(); i++) {
                boolean joined = tops.get(i).equals(reached.get(at)) || tops.get(reached.get(at)) == i;
                if (joined && bags.get(i).contains(v) && !reached.contains(i)) {
                    reached.add(i);
                }
            }
        }
        return reached.size() == having;
    }

    private void needBags() {
        if (bags.isEmpty()) {
            throw new NoSuchElementException();
        }
    }

    int bagWidth() {
        needBags();
        int most = 0;
        for (TreeSet<Integer> b : bags) {
            most = Math.max(most, b.size());
        }
        return most - 1;
    }

    int bagAt(int bag) {
        if (bag < 0 || bag >= bags.size()) {
            throw new IndexOutOfBoundsException();
        }
        return number(bags.get(bag));
    }

    int above(int bag) {
        if (bag < 0 || bag >= bags.size()) {
            throw new IndexOutOfBoundsException();
        }
        return tops.get(bag);
    }

    int nice() {
        needBags();
        if (check() != '-') {
            throw new UnsupportedOperationException();
        }
        int found = bags.get(0).size();
        for (int i = 0; i < bags.size(); i++) {
            int c = Collections.frequency(tops, i);
            if (c == 0) {
                found += 1 + bags.get(i).size();
            } else {
                found += c - 1;
            }
            if (i > 0) {
                found += minus(bags.get(i), bags.get(tops.get(i))).size();
                found += minus(bags.get(tops.get(i)), bags.get(i)).size();
            }
        }
        return found;
    }

    // ---- searchers and brambles

    private boolean lost(TreeSet<Integer> s, int k, Map<Integer, Boolean> known) {
        Boolean was = known.get(number(s));
        if (was != null) {
            return was;
        }
        boolean is = false;
        if (beside(s).size() < k) {
            for (int v : s) {
                boolean all = true;
                for (TreeSet<Integer> p : partsOf(minus(s, one(v)))) {
                    all = all && lost(p, k, known);
                }
                is = is || all;
            }
        }
        known.put(number(s), is);
        return is;
    }

    private boolean wins(int k) {
        Map<Integer, Boolean> known = new HashMap<>();
        for (TreeSet<Integer> p : partsOf(alive)) {
            if (!lost(p, k, known)) {
                return false;
            }
        }
        return true;
    }

    boolean win(int k) {
        need(k >= 0 && k <= 10);
        return wins(k);
    }

    int searchers() {
        int k = 0;
        while (!wins(k)) {
            k++;
        }
        return k;
    }

    private TreeSet<Integer> refuge(int k, Set<Integer> x) {
        for (TreeSet<Integer> p : partsOf(minus(alive, x))) {
            if (!lost(p, k, new HashMap<>())) {
                return p;
            }
        }
        throw new IllegalStateException("the document says that there is always one");
    }

    int haven(int k, int vertices) {
        need(k >= 0 && k <= 10);
        TreeSet<Integer> x = needSet(vertices);
        need(x.size() <= k);
        if (wins(k)) {
            throw new NoSuchElementException();
        }
        return number(refuge(k, x));
    }

    int put(int vertices) {
        need(vertices != 0);
        TreeSet<Integer> s = needSet(vertices);
        if (family.contains(s)) {
            throw new UnsupportedOperationException();
        }
        if (family.size() == 60) {
            throw new IllegalStateException();
        }
        family.add(s);
        return family.size();
    }

    int clearFamily() {
        int had = family.size();
        family.clear();
        return had;
    }

    boolean isBramble() {
        for (TreeSet<Integer> a : family) {
            if (!hangs(a)) {
                return false;
            }
            for (TreeSet<Integer> b : family) {
                TreeSet<Integer> both = new TreeSet<>(a);
                both.addAll(b);
                if (!hangs(both)) {
                    return false;
                }
            }
        }
        return true;
    }

    int familyOrder() {
        int fewest = 99;
        for (TreeSet<Integer> s : subsets(alive)) {
            if (family.stream().allMatch(m -> !Collections.disjoint(m, s))) {
                fewest = Math.min(fewest, s.size());
            }
        }
        return fewest;
    }

    int takeHaven() {
        if (alive.isEmpty()) {
            throw new NoSuchElementException();
        }
        family.clear();
        int k = searchers() - 1;
        for (TreeSet<Integer> x : subsets(alive)) {
            if (x.size() <= k && family.size() < 60) {
                TreeSet<Integer> p = refuge(k, x);
                if (!family.contains(p)) {
                    family.add(p);
                }
            }
        }
        return familyOrder();
    }

    // ---- minors and classes

    private static boolean mustTouch(char kind, int i, int j) {
        int side = kind == 'b' ? 3 : 2;
        return kind >= '3' && kind <= '5' || i < side != j < side;
    }

    private static int setsOf(char kind) {
        return kind == 'b' ? 6 : kind == 'o' ? 5 : kind - '0';
    }

    private boolean grow(char kind, List<TreeSet<Integer>> model, List<TreeSet<Integer>> hanging, Set<Integer> free) {
        int at = model.size();
        if (at == setsOf(kind)) {
            return true;
        }
        for (TreeSet<Integer> s : hanging) {
            boolean fits = !s.isEmpty() && free.containsAll(s);
            for (int i = 0; i < at && fits; i++) {
                fits = !mustTouch(kind, i, at) || !Collections.disjoint(beside(model.get(i)), s);
            }
            if (fits) {
                model.add(s);
                if (grow(kind, model, hanging, minus(free, s))) {
                    return true;
                }
                model.remove(at);
            }
        }
        return false;
    }

    private List<TreeSet<Integer>> modelIn(char kind, Set<Integer> within) {
        List<TreeSet<Integer>> hanging = new ArrayList<>();
        for (TreeSet<Integer> s : subsets(within)) {
            if (hangs(s)) {
                hanging.add(s);
            }
        }
        List<TreeSet<Integer>> model = new ArrayList<>();
        return grow(kind, model, hanging, within) ? model : null;
    }

    boolean hasMinor(char kind) {
        need("345bo".indexOf(kind) >= 0);
        return modelIn(kind, alive) != null;
    }

    int model(char kind, int index) {
        need("345bo".indexOf(kind) >= 0);
        List<TreeSet<Integer>> model = modelIn(kind, alive);
        if (model == null) {
            throw new NoSuchElementException();
        }
        if (index < 0 || index >= model.size()) {
            throw new IndexOutOfBoundsException();
        }
        return number(model.get(index));
    }

    private boolean inClass(char kind, Set<Integer> within) {
        String forbidden = kind == 'f' ? "3" : kind == 's' ? "4" : kind == 'o' ? "4o" : "5b";
        for (char minor : forbidden.toCharArray()) {
            if (modelIn(minor, within) != null) {
                return false;
            }
        }
        return true;
    }

    boolean isIn(char kind) {
        need("fsop".indexOf(kind) >= 0);
        return inClass(kind, alive);
    }

    int apex(char kind) {
        need("fsop".indexOf(kind) >= 0);
        int fewest = alive.size();
        for (TreeSet<Integer> s : subsets(alive)) {
            if (s.size() < fewest && inClass(kind, minus(alive, s))) {
                fewest = s.size();
            }
        }
        return fewest;
    }

    // ---- clauses, programs, kernels

    boolean clause(char kind, boolean is) {
        need("icdvke".indexOf(kind) >= 0);
        return is ? !clauses.add(kind) : clauses.remove(kind);
    }

    private boolean keeps(TreeSet<Integer> s) {
        boolean ok = !clauses.contains('i') || noneTied(s);
        ok = ok && (!clauses.contains('c') || allTied(s));
        ok = ok && (!clauses.contains('d') || minus(minus(alive, s), beside(s)).isEmpty());
        ok = ok && (!clauses.contains('v') || noneTied(minus(alive, s)));
        ok = ok && (!clauses.contains('k') || hangs(s));
        for (int v : s) {
            ok = ok && (!clauses.contains('e') || degreeIn(v, s) % 2 == 0);
        }
        return ok;
    }

    int sets() {
        int found = 0;
        for (TreeSet<Integer> s : subsets(alive)) {
            found += keeps(s) ? 1 : 0;
        }
        return found;
    }

    int bestSet() {
        int best = -1;
        int lightest = 0;
        for (TreeSet<Integer> s : subsets(alive)) {
            int weight = 0;
            for (int v : s) {
                weight += weights.get(v);
            }
            if (keeps(s) && (best < 0 || weight < lightest)) {
                best = number(s);
                lightest = weight;
            }
        }
        if (best < 0) {
            throw new NoSuchElementException();
        }
        return best;
    }

    private long paint(List<Integer> order, int[] colour, int at, int colours) {
        if (at == order.size()) {
            return 1;
        }
        long sum = 0;
        for (int c = 1; c <= colours; c++) {
            boolean fits = true;
            for (int i = 0; i < at; i++) {
                fits = fits && !(tied[order.get(i)][order.get(at)] && colour[i] == c);
            }
            if (fits) {
                colour[at] = c;
                sum += paint(order, colour, at + 1, colours);
            }
        }
        return sum;
    }

    int colours() {
        int k = 0;
        while (paint(new ArrayList<>(alive), new int[10], 0, k) == 0) {
            k++;
        }
        return k;
    }

    long colourings(int colours) {
        need(colours >= 0 && colours <= 9);
        return paint(new ArrayList<>(alive), new int[10], 0, colours);
    }

    long rings() {
        if (alive.size() < 3) {
            return 0;
        }
        List<List<Integer>> all = new ArrayList<>();
        orders(new ArrayList<>(), all);
        long found = 0;
        for (List<Integer> order : all) {
            boolean closed = true;
            for (int i = 0; i < order.size(); i++) {
                closed = closed && tied[order.get(i)][order.get((i + 1) % order.size())];
            }
            found += closed ? 1 : 0;
        }
        return found / (2 * alive.size());
    }

    private int walk(int v, Set<Integer> seen) {
        int most = 0;
        for (int w : nextTo(v)) {
            if (seen.add(w)) {
                most = Math.max(most, 1 + walk(w, seen));
                seen.remove(w);
            }
        }
        return most;
    }

    int longest() {
        if (alive.isEmpty()) {
            throw new NoSuchElementException();
        }
        int most = 0;
        for (int v : alive) {
            most = Math.max(most, walk(v, one(v)));
        }
        return most;
    }

    int link(int vertices) {
        TreeSet<Integer> ends = needSet(vertices);
        int fewest = 99;
        for (TreeSet<Integer> s : subsets(alive)) {
            if (s.containsAll(ends) && hangs(s)) {
                fewest = Math.min(fewest, s.size());
            }
        }
        if (fewest == 99) {
            throw new NoSuchElementException();
        }
        return fewest;
    }

    /** The set that is left, and what is left of k. */
    private int[] shrink(int k) {
        need(k >= 0 && k <= 10);
        TreeSet<Integer> left = new TreeSet<>(alive);
        int rest = k;
        while (true) {
            int goes = -1;
            boolean paid = true;
            for (int v : left) {
                if (goes < 0 && degreeIn(v, left) == 0) {
                    goes = v;
                    paid = false;
                }
            }
            if (goes < 0) {
                for (int v : left) {
                    if (goes < 0 && degreeIn(v, left) > rest) {
                        goes = v;
                    }
                }
            }
            if (goes < 0) {
                for (int v : left) {
                    if (goes < 0 && degreeIn(v, left) == 1) {
                        TreeSet<Integer> near = nextTo(v);
                        near.retainAll(left);
                        goes = near.first();
                    }
                }
            }
            if (goes < 0) {
                break;
            }
            left.remove(goes);
            rest -= paid ? 1 : 0;
            if (rest < 0) {
                throw new NoSuchElementException();
            }
        }
        int ends = 0;
        for (int v : left) {
            ends += degreeIn(v, left);
        }
        if (ends / 2 > rest * rest) {
            throw new NoSuchElementException();
        }
        return new int[] {number(left), rest};
    }

    int kernel(int k) {
        return shrink(k)[0];
    }

    int kernelLeft(int k) {
        return shrink(k)[1];
    }

    boolean hasCover(int k) {
        need(k >= 0 && k <= 10);
        for (TreeSet<Integer> s : subsets(alive)) {
            if (s.size() <= k && noneTied(minus(alive, s))) {
                return true;
            }
        }
        return false;
    }

    // ---- hyperedges, twins, figures

    int hyperedge(int vertices) {
        need(vertices != 0);
        TreeSet<Integer> s = needSet(vertices);
        if (hyperedges.size() == 10) {
            throw new IllegalStateException();
        }
        hyperedges.add(s);
        return hyperedges.size();
    }

    int clearHyperedges() {
        int had = hyperedges.size();
        hyperedges.clear();
        return had;
    }

    boolean isAcyclic() {
        List<TreeSet<Integer>> left = new ArrayList<>();
        for (TreeSet<Integer> h : hyperedges) {
            left.add(new TreeSet<>(h));
        }
        while (vanishOne(left)) {
            continue;
        }
        return left.isEmpty();
    }

    private boolean vanishOne(List<TreeSet<Integer>> left) {
        for (int i = 0; i < left.size(); i++) {
            for (int j = 0; j < left.size(); j++) {
                if (left.get(i).isEmpty() || i != j && left.get(j).containsAll(left.get(i))) {
                    left.remove(i);
                    return true;
                }
            }
        }
        for (int v : alive) {
            TreeSet<Integer> only = null;
            int having = 0;
            for (TreeSet<Integer> h : left) {
                if (h.contains(v)) {
                    having++;
                    only = h;
                }
            }
            if (having == 1) {
                only.remove(v);
                return true;
            }
        }
        return false;
    }

    int cover() {
        int most = 0;
        for (TreeSet<Integer> b : bags) {
            int fewest = 99;
            for (int choice = 0; choice < 1 << hyperedges.size(); choice++) {
                TreeSet<Integer> held = new TreeSet<>();
                for (int i : set(choice)) {
                    held.addAll(hyperedges.get(i));
                }
                if (held.containsAll(b)) {
                    fewest = Math.min(fewest, Integer.bitCount(choice));
                }
            }
            if (fewest == 99) {
                throw new NoSuchElementException();
            }
            most = Math.max(most, fewest);
        }
        return most;
    }

    private TreeSet<Integer> partWith(int v) {
        for (TreeSet<Integer> p : parts) {
            if (p.contains(v)) {
                return p;
            }
        }
        throw new IllegalStateException();
    }

    int join(int v, int w) {
        needVertex(v);
        needVertex(w);
        TreeSet<Integer> p = partWith(v);
        TreeSet<Integer> q = partWith(w);
        if (p == q) {
            throw new UnsupportedOperationException();
        }
        parts = joined(parts, p, q);
        return parts.size();
    }

    private static List<TreeSet<Integer>> joined(List<TreeSet<Integer>> all, Set<Integer> p, Set<Integer> q) {
        List<TreeSet<Integer>> now = new ArrayList<>();
        for (TreeSet<Integer> r : all) {
            if (r != p && r != q) {
                now.add(r);
            }
        }
        TreeSet<Integer> both = new TreeSet<>(p);
        both.addAll(q);
        now.add(both);
        return now;
    }

    int split() {
        int had = parts.size();
        parts = new ArrayList<>();
        for (int v : alive) {
            parts.add(one(v));
        }
        return had;
    }

    private int redOf(List<TreeSet<Integer>> all) {
        int most = 0;
        for (TreeSet<Integer> p : all) {
            int count = 0;
            for (TreeSet<Integer> q : all) {
                boolean some = false;
                boolean lacks = false;
                for (int v : p) {
                    for (int w : q) {
                        some = some || p != q && tied[v][w];
                        lacks = lacks || p != q && !tied[v][w];
                    }
                }
                count += some && lacks ? 1 : 0;
            }
            most = Math.max(most, count);
        }
        return most;
    }

    int red() {
        return redOf(parts);
    }

    private int leastRed(List<TreeSet<Integer>> all, Map<Set<Set<Integer>>, Integer> known) {
        int now = redOf(all);
        if (all.size() < 2) {
            return now;
        }
        Set<Set<Integer>> key = new HashSet<>(all);
        Integer was = known.get(key);
        if (was != null) {
            return was;
        }
        int least = 99;
        for (TreeSet<Integer> p : all) {
            for (TreeSet<Integer> q : all) {
                if (p.first() < q.first()) {
                    least = Math.min(least, leastRed(joined(all, p, q), known));
                }
            }
        }
        known.put(key, Math.max(now, least));
        return Math.max(now, least);
    }

    int twinWidth() {
        if (alive.size() > 7) {
            throw new UnsupportedOperationException();
        }
        List<TreeSet<Integer>> alone = new ArrayList<>();
        for (int v : alive) {
            alone.add(one(v));
        }
        return leastRed(alone, new HashMap<>());
    }

    float density() {
        int n = alive.size();
        if (n < 2) {
            throw new ArithmeticException();
        }
        return (float) edges() / (float) (n * (n - 1) / 2);
    }

    double meanDegree() {
        if (alive.isEmpty()) {
            throw new ArithmeticException();
        }
        return (double) (2 * edges()) / (double) alive.size();
    }

    boolean isTrue() {
        return true;
    }
}
