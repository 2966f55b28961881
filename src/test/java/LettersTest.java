import java.util.function.Function;
import java.util.function.Supplier;

/** Every letter there is, from 0 to 65535, for every call that takes one. */
public final class LettersTest {
    private static final Class<?> INDEX = IndexOutOfBoundsException.class;
    private static final Class<?> ARGUMENT = IllegalArgumentException.class;
    private static final Class<?> NONE = java.util.NoSuchElementException.class;
    private static final Class<?> UNSUPPORTED = UnsupportedOperationException.class;
    private static final int LETTERS = 150;

    private interface Call {
        Object on(Bramblehall x, char letter);
    }

    public static void main(String[] args) {
        widths();
        orders();
        minors();
        classes();
        clauses();
        Due.end();
    }

    /** A new hall ahead of every 150 letters, as an object is used for 512 calls alone. */
    private static void all(String what, Supplier<Bramblehall> made, Function<Character, Object> wants, Call call) {
        Bramblehall x = made.get();
        for (int sign = 0; sign <= Character.MAX_VALUE; sign++) {
            char letter = (char) sign;
            if (sign % LETTERS == 0) {
                x = made.get();
            }
            Bramblehall hall = x;
            Object want = wants.apply(letter);
            String name = what + " " + sign;
            if (want instanceof Class<?>) {
                Due.fails(name, (Class<?>) want, () -> call.on(hall, letter));
            } else {
                Due.is(name, want, () -> call.on(hall, letter));
            }
        }
    }

    /** What is due for the letters of the text, in their order, and for all others. */
    private static Function<Character, Object> per(String letters, Object other, Object... dues) {
        return letter -> letters.indexOf(letter) < 0 ? other : dues[letters.indexOf(letter)];
    }

    private static Function<Character, Object> same(String letters, Object due) {
        return letter -> letters.indexOf(letter) < 0 ? ARGUMENT : due;
    }

    private static Bramblehall nothing() {
        return new Bramblehall();
    }

    private static Bramblehall star() {
        return Due.twoSides(1, 4);
    }

    private static Bramblehall starInOrder() {
        Bramblehall x = star();
        for (int v = 1; v < 6; v++) {
            x.place(v % 5);
        }
        return x;
    }

    private static void widths() {
        all("11: kind, of a star,", LettersTest::star, per("tpcbrdgq", ARGUMENT, 1, 1, 2, 2, 1, 2, 1, 2),
                (x, c) -> x.width(c));
        all("11: kind, of nothing,", LettersTest::nothing, same("tpcbrdgq", 0), (x, c) -> x.width(c));
        all("15: kind, of a star,", LettersTest::starInOrder, per("tpcbr", ARGUMENT, 1, 4, 4, 4, 1),
                (x, c) -> x.widthOf(c));
        all("15: kind, of nothing,", LettersTest::nothing, same("tpcbr", 0), (x, c) -> x.widthOf(c));
        all("15: kind, all missing,", LettersTest::star, same("tpcbr", UNSUPPORTED), (x, c) -> x.widthOf(c));
    }

    private static void orders() {
        all("12: kind, first of a star,", LettersTest::star, per("tpcbr", ARGUMENT, 1, 0, 1, 1, 0),
                (x, c) -> x.orderAt(c, 0));
        all("12: kind, behind the last,", LettersTest::star, same("tpcbr", INDEX), (x, c) -> x.orderAt(c, 5));
        all("12: kind, below 0,", LettersTest::nothing, same("tpcbr", INDEX), (x, c) -> x.orderAt(c, -1));
    }

    private static void minors() {
        all("34: kind, of a clique,", () -> Due.clique(5), per("345bo", ARGUMENT, true, true, true, false, true),
                (x, c) -> x.hasMinor(c));
        all("34: kind, of nothing,", LettersTest::nothing, same("345bo", false), (x, c) -> x.hasMinor(c));
        all("35: kind, of a clique,", () -> Due.clique(5), per("345bo", ARGUMENT, 4, 4, 4, NONE, 4),
                (x, c) -> x.model(c, 2));
        all("35: kind, no such set,", () -> Due.clique(6), same("345bo", INDEX), (x, c) -> x.model(c, 6));
        all("35: kind, none of it,", LettersTest::nothing, same("345bo", NONE), (x, c) -> x.model(c, -1));
    }

    private static void classes() {
        all("36: class, of a clique,", () -> Due.clique(4), per("fsop", ARGUMENT, false, false, false, true),
                (x, c) -> x.isIn(c));
        all("36: class, of nothing,", LettersTest::nothing, same("fsop", true), (x, c) -> x.isIn(c));
        all("37: class, of a clique,", () -> Due.clique(6), per("fsop", ARGUMENT, 4, 3, 3, 2), (x, c) -> x.apex(c));
        all("37: class, of nothing,", LettersTest::nothing, same("fsop", 0), (x, c) -> x.apex(c));
    }

    private static void clauses() {
        all("38: clause", LettersTest::star, same("icdvke", false), (x, c) -> x.clause(c, true));
        all("38: clause, told", LettersTest::allClauses, same("icdvke", true), (x, c) -> x.clause(c, true));
        all("38: clause, not told,", LettersTest::star, same("icdvke", false), (x, c) -> x.clause(c, false));
        all("38: clause, taken back,", LettersTest::allClauses, same("icdvke", true), (x, c) -> x.clause(c, false));
        // of a star of four: what each alone lets stand
        all("39: clause", LettersTest::star, per("icdvke", 32, 17, 10, 17, 17, 21, 17), LettersTest::setsWith);
    }

    private static Bramblehall allClauses() {
        Bramblehall x = star();
        for (char letter : "icdvke".toCharArray()) {
            x.clause(letter, true);
        }
        return x;
    }

    /** A letter that is refused tells no clause. */
    private static Object setsWith(Bramblehall used, char letter) {
        Bramblehall x = letter > 300 && letter < 65000 ? used : star();
        Due.answer(() -> x.clause(letter, true));
        Object sets = x.sets();
        Due.answer(() -> x.clause(letter, false));
        return sets;
    }
}
