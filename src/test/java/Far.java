/** The numbers with which a call's bounds are tried: all around 0, and those beside each power of 2. */
final class Far {
    private static final int NEAR = 140;

    private Far() {
    }

    /** All from -140 to 140, and each power of 2 up to 2 to the 31st, negated too, with the numbers beside it. */
    static int[] numbers() {
        int[] all = new int[2 * NEAR + 1 + 32 * 6];
        int count = 0;
        for (int number = -NEAR; number <= NEAR; number++) {
            all[count] = number;
            count++;
        }
        for (int power = 0; power < 32; power++) {
            for (int beside = -1; beside <= 1; beside++) {
                all[count] = (1 << power) + beside;
                all[count + 1] = -(1 << power) + beside;
                count += 2;
            }
        }
        return all;
    }

    /** All numbers that are sets of ten vertices, some beyond, and the numbers above. */
    static int[] sets() {
        int[] far = numbers();
        int[] all = new int[1100 + far.length];
        for (int set = 0; set < 1100; set++) {
            all[set] = set;
        }
        System.arraycopy(far, 0, all, 1100, far.length);
        return all;
    }

    static boolean in(int number, int least, int most) {
        return number >= least && number <= most;
    }

    /** Whether there is such a vertex among those of the set. */
    static boolean among(int vertex, int set) {
        return in(vertex, 0, 9) && (set & 1 << vertex) != 0;
    }
}
