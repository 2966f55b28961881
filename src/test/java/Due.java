/** Counts the calls whose answer is not the one that is due. */
final class Due {
    interface Call {
        Object run();
    }

    private static int wrong = 0;
    private static int checked = 0;

    private Due() {
    }

    /** The call must give this answer; numbers are compared by their text, so that 3 and 3L are alike. */
    static void is(String what, Object want, Call call) {
        say(what, String.valueOf(want), answer(call));
    }

    /** The call must throw just this. */
    static void fails(String what, Class<?> want, Call call) {
        say(what, "throws " + want.getSimpleName(), answer(call));
    }

    static String answer(Call call) {
        try {
            return String.valueOf(call.run());
        } catch (RuntimeException e) {
            return "throws " + e.getClass().getSimpleName();
        }
    }

    static void say(String what, String want, String got) {
        checked++;
        if (!want.equals(got)) {
            wrong++;
            if (wrong <= 50) {
                System.out.println(what + " answered " + got + ", due is " + want);
            }
        }
    }

    static void end() {
        System.out.println(checked + " answers looked at, " + wrong + " wrong");
        if (wrong != 0) {
            System.exit(1);
        }
    }

    /** A hall with n vertices of weight 1 and the edges told as pairs. */
    static Bramblehall hall(int n, int... ends) {
        Bramblehall hall = new Bramblehall();
        for (int i = 0; i < n; i++) {
            hall.vertex(1);
        }
        for (int i = 0; i + 1 < ends.length; i += 2) {
            hall.edge(ends[i], ends[i + 1], true);
        }
        return hall;
    }

    static Bramblehall clique(int n) {
        Bramblehall hall = hall(n);
        for (int i = 0; i < n; i++) {
            for (int j = 0; j < i; j++) {
                hall.edge(i, j, true);
            }
        }
        return hall;
    }

    static Bramblehall ring(int n) {
        Bramblehall hall = hall(n);
        for (int i = 0; i < n; i++) {
            hall.edge(i, (i + 1) % n, true);
        }
        return hall;
    }

    static Bramblehall path(int n) {
        Bramblehall hall = hall(n);
        for (int i = 0; i + 1 < n; i++) {
            hall.edge(i, i + 1, true);
        }
        return hall;
    }

    /** Each of the first a vertices beside each of the b others. */
    static Bramblehall twoSides(int a, int b) {
        Bramblehall hall = hall(a + b);
        for (int i = 0; i < a; i++) {
            for (int j = 0; j < b; j++) {
                hall.edge(i, a + j, true);
            }
        }
        return hall;
    }

    static Bramblehall petersen() {
        Bramblehall hall = hall(10);
        for (int i = 0; i < 5; i++) {
            hall.edge(i, (i + 1) % 5, true);
            hall.edge(i, i + 5, true);
            hall.edge(i + 5, (i + 2) % 5 + 5, true);
        }
        return hall;
    }

    static Bramblehall grid(int rows, int columns) {
        Bramblehall hall = hall(rows * columns);
        for (int r = 0; r < rows; r++) {
            for (int c = 0; c < columns; c++) {
                int v = r * columns + c;
                if (c + 1 < columns) {
                    hall.edge(v, v + 1, true);
                }
                if (r + 1 < rows) {
                    hall.edge(v, v + columns, true);
                }
            }
        }
        return hall;
    }
}
