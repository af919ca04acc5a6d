/** Circuits, arguments and questions that several tests use. */
final class Circuits {
    static final int LEAST = Integer.MIN_VALUE;
    static final int GREATEST = Integer.MAX_VALUE;

    // Beside the neighbours of what is allowed and the ends of int: numbers that would reach an allowed one
    // if an index ran into the other circuit, a shift went by 32, or a product wrapped around.
    static final int[] NO_CIRCUIT = {-1, 2, LEAST, GREATEST, 1 << 30, 1 << 31 | 1, 32};
    static final int[] NO_TYPE = {-1, 3, LEAST, GREATEST, 4, 256};
    static final int[] NO_NET = {-1, 6, LEAST, GREATEST, -6, 11, 31, 32, 37};
    static final int[] NO_DEVICE = {-1, 7, LEAST, GREATEST, -7, 13, 31, 32, 38};
    static final int[] NO_NAME = {-2, 4, LEAST, GREATEST, 255, 256};

    private Circuits() {
    }

    static int nets(int g, int x, int y) {
        return g + 8 * x + 64 * y;
    }

    /** Circuit c alone with seven devices, each with both ends at net 0. */
    static NetMatcher withSeven(int c) {
        NetMatcher m = new NetMatcher();
        for (int d = 0; d < 7; d++) {
            m.add(c, d % 3, nets(d % 6, 0, 0));
        }
        return m;
    }

    /**
     * Two circuits of seven devices with a single match, which assigns net i + 1 to net i, and net 0 to net 5.
     * Any one device or name that changes in one of the circuits leaves no match. It takes 18 calls.
     */
    static NetMatcher rigid() {
        int[][] devices = {{0, 0, 1, 2}, {1, 1, 2, 3}, {2, 5, 3, 4}, {0, 4, 5, 5}, {1, 5, 0, 0}, {2, 3, 0, 1}, {0, 2, 4, 5}};
        NetMatcher m = new NetMatcher();
        for (int c = 0; c < 2; c++) {
            for (int[] device : devices) {
                m.add(c, device[0], nets((device[1] + c) % 6, (device[2] + c) % 6, (device[3] + c) % 6));
            }
            m.name(c, c, 0);
            m.name(c, (5 + c) % 6, 3);
        }
        return m;
    }

    /** The answers to all questions, 103 calls: two objects that agree in these can hardly differ in anything. */
    static long[] answers(NetMatcher m) {
        long[] answers = new long[103];
        int k = 0;
        answers[k++] = m.match() ? 1 : 0;
        answers[k++] = m.matches();
        answers[k++] = m.surplus();
        for (int i = 0; i < 6; i++) {
            answers[k++] = m.assigned(i);
            answers[k++] = m.candidates(i);
        }
        for (int c = 0; c < 2; c++) {
            answers[k++] = m.devices(c);
            answers[k++] = m.symmetries(c);
            for (int i = 0; i < 6; i++) {
                answers[k++] = m.degree(c, i);
                for (int j = 0; j < 6; j++) {
                    answers[k++] = m.exchangeable(c, i, j) ? 1 : 0;
                }
            }
        }
        return answers;
    }
}
