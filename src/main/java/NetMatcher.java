/** Compares two small circuits of devices and nets. */
public final class NetMatcher {
    public static final int BAD = -1;
    public static final int FULL = -2;
    public static final int NONE = -1;

    private static final int CIRCUITS = 2;
    private static final int NETS = 6;
    private static final int DEVICES = 7;
    private static final int TYPES = 3;
    private static final int NAMES = 4;

    /** The type whose gate does not matter. */
    private static final int GATELESS = 2;

    private static final int NET_SLOTS = 12;
    private static final int DEVICE_SLOTS = 14;

    /** The number of one-to-one assignments of six nets to six nets. */
    private static final int ASSIGNMENTS = 720;

    // Net i of circuit c is kept at c * NETS + i, device d of circuit c at c * DEVICES + d.
    private final int[] names = new int[NET_SLOTS];
    private final int[] types = new int[DEVICE_SLOTS];
    private final int[] gates = new int[DEVICE_SLOTS];
    private final int[] firstEnds = new int[DEVICE_SLOTS];
    private final int[] secondEnds = new int[DEVICE_SLOTS];

    /** For each circuit, bit d tells whether it has device d. */
    private final int[] present = new int[CIRCUITS];

    /** The assignment under trial: the right circuit's net for each net of the left one. */
    private final int[] trial = new int[NETS];

    // What the last survey found; each survey starts these anew, so no state is carried over.
    private int found;
    private final int[] firstMatch = new int[NETS];
    private final int[] images = new int[NETS];

    public NetMatcher() {
        for (int slot = 0; slot < NET_SLOTS; slot++) {
            names[slot] = NONE;
        }
    }

    public int add(int c, int type, int nets) {
        if (!isCircuit(c) || type < 0 || type >= TYPES || nets < 0) {
            return BAD;
        }
        int gate = nets & 7;
        int x = (nets >> 3) & 7;
        int y = nets >> 6;
        if (!isNet(gate) || !isNet(x) || !isNet(y)) {
            return BAD;
        }
        int d = leastFreeDevice(c);
        if (d == NONE) {
            return FULL;
        }
        int slot = c * DEVICES + d;
        types[slot] = type;
        gates[slot] = gate;
        firstEnds[slot] = x;
        secondEnds[slot] = y;
        present[c] = present[c] | (1 << d);
        return d;
    }

    public boolean remove(int c, int d) {
        if (!isCircuit(c) || d < 0 || d >= DEVICES || !hasBit(present[c], d)) {
            return false;
        }
        present[c] = present[c] & ~(1 << d);
        return true;
    }

    public boolean name(int c, int i, int name) {
        if (!isCircuit(c) || !isNet(i)) {
            return false;
        }
        if (name != NONE && (name < 0 || name >= NAMES)) {
            return false;
        }
        names[c * NETS + i] = name;
        return true;
    }

    public int devices(int c) {
        return isCircuit(c) ? present[c] : 0;
    }

    public int degree(int c, int i) {
        if (!isCircuit(c) || !isNet(i)) {
            return BAD;
        }
        int sum = 0;
        for (int d = 0; d < DEVICES; d++) {
            if (hasBit(present[c], d)) {
                sum += touches(c * DEVICES + d, i);
            }
        }
        return sum;
    }

    public boolean match() {
        survey(0, present[0], 1);
        return found > 0;
    }

    public int assigned(int i) {
        if (!isNet(i)) {
            return NONE;
        }
        survey(0, present[0], 1);
        return found > 0 ? firstMatch[i] : NONE;
    }

    public int matches() {
        survey(0, present[0], 1);
        return found;
    }

    public int candidates(int i) {
        if (!isNet(i)) {
            return 0;
        }
        survey(0, present[0], 1);
        return images[i];
    }

    public int symmetries(int c) {
        if (!isCircuit(c)) {
            return BAD;
        }
        survey(c, present[c], c);
        return found;
    }

    public boolean exchangeable(int c, int i, int j) {
        if (!isCircuit(c) || !isNet(i) || !isNet(j)) {
            return false;
        }
        survey(c, present[c], c);
        return hasBit(images[i], j);
    }

    public int surplus() {
        for (int d = 0; d < DEVICES; d++) {
            if (hasBit(present[0], d)) {
                survey(0, present[0] & ~(1 << d), 1);
                if (found > 0) {
                    return d;
                }
            }
        }
        return NONE;
    }

    private static boolean isCircuit(int c) {
        return c >= 0 && c < CIRCUITS;
    }

    private static boolean isNet(int i) {
        return i >= 0 && i < NETS;
    }

    private static boolean hasBit(int bits, int position) {
        return ((bits >> position) & 1) == 1;
    }

    private int leastFreeDevice(int c) {
        for (int d = 0; d < DEVICES; d++) {
            if (!hasBit(present[c], d)) {
                return d;
            }
        }
        return NONE;
    }

    private int touches(int slot, int net) {
        int sum = 0;
        if (types[slot] != GATELESS && gates[slot] == net) {
            sum++;
        }
        if (firstEnds[slot] == net) {
            sum++;
        }
        if (secondEnds[slot] == net) {
            sum++;
        }
        return sum;
    }

    /**
     * Tries every assignment of nets of circuit right to nets of circuit left, where left is taken to have the
     * devices leftDevices alone: a question may leave out a device, or compare a circuit with itself.
     */
    private void survey(int left, int leftDevices, int right) {
        startSurvey();
        for (int k = 0; k < ASSIGNMENTS; k++) {
            if (namesAgree(left, right) && devicesAgree(left, leftDevices, right)) {
                recordMatch();
            }
            nextTrial();
        }
    }

    private void startSurvey() {
        found = 0;
        for (int i = 0; i < NETS; i++) {
            images[i] = 0;
            trial[i] = i;
        }
    }

    private boolean namesAgree(int left, int right) {
        for (int i = 0; i < NETS; i++) {
            if (names[left * NETS + i] != names[right * NETS + trial[i]]) {
                return false;
            }
        }
        return true;
    }

    /** Pairs off equal devices; any equal partner will do, as equal devices have the same partners. */
    private boolean devicesAgree(int left, int leftDevices, int right) {
        int unpaired = present[right];
        for (int d = 0; d < DEVICES; d++) {
            if (hasBit(leftDevices, d)) {
                int partner = findPartner(left * DEVICES + d, right, unpaired);
                if (partner == NONE) {
                    return false;
                }
                unpaired = unpaired & ~(1 << partner);
            }
        }
        return unpaired == 0;
    }

    private int findPartner(int leftSlot, int right, int unpaired) {
        for (int e = 0; e < DEVICES; e++) {
            if (hasBit(unpaired, e) && sameDevice(leftSlot, right * DEVICES + e)) {
                return e;
            }
        }
        return NONE;
    }

    private boolean sameDevice(int leftSlot, int rightSlot) {
        if (types[leftSlot] != types[rightSlot]) {
            return false;
        }
        if (types[leftSlot] != GATELESS && trial[gates[leftSlot]] != gates[rightSlot]) {
            return false;
        }
        int x = trial[firstEnds[leftSlot]];
        int y = trial[secondEnds[leftSlot]];
        return (x == firstEnds[rightSlot] && y == secondEnds[rightSlot])
            || (x == secondEnds[rightSlot] && y == firstEnds[rightSlot]);
    }

    private void recordMatch() {
        for (int i = 0; i < NETS; i++) {
            // Trials come in dictionary order, so the first one found is the least.
            if (found == 0) {
                firstMatch[i] = trial[i];
            }
            images[i] = images[i] | (1 << trial[i]);
        }
        found++;
    }

    /** Goes to the next assignment in the dictionary order; the last one stays as it is. */
    private void nextTrial() {
        int pivot = NETS - 2;
        while (pivot >= 0 && trial[pivot] > trial[pivot + 1]) {
            pivot--;
        }
        if (pivot < 0) {
            return;
        }
        int successor = NETS - 1;
        while (successor > pivot && trial[successor] < trial[pivot]) {
            successor--;
        }
        swapTrial(pivot, successor);
        // The nets behind the pivot fall; the least continuation has them rise.
        int high = NETS - 1;
        for (int low = pivot + 1; low < high; low++) {
            swapTrial(low, high);
            high--;
        }
    }

    private void swapTrial(int i, int j) {
        int kept = trial[i];
        trial[i] = trial[j];
        trial[j] = kept;
    }
}
