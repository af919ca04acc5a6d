import java.util.ArrayList;
import java.util.Arrays;
import java.util.List;

/** Long runs of calls, good and wrong, each answer compared with that of a model written straight from the Terms. */
final class ModelTest {
    private static final int RUNS = 200;
    private static final int CALLS = 400;
    private static final int[] ODD = {-1, -2, 6, 7, 8, 31, 32, 64, 384, Integer.MIN_VALUE, Integer.MAX_VALUE};
    private static final Due due = new Due();

    /** A fixed sequence of numbers, so that every run of this test is the same. */
    private long seed = 20261116;
    private NetMatcher matcher;
    private Model model;

    public static void main(String[] args) {
        ModelTest test = new ModelTest();
        for (int run = 0; run < RUNS; run++) {
            test.matcher = new NetMatcher();
            test.model = new Model();
            if (run % 4 != 0) {
                test.likeCircuits(run);
            }
            for (int call = 0; call < CALLS; call++) {
                test.call("run " + run + " call " + call + ": ");
            }
        }
        due.end();
    }

    private int below(int bound) {
        seed = seed * 6364136223846793005L + 1442695040888963407L;
        return (int) ((seed >>> 33) % bound);
    }

    /** Mostly a number below bound, now and then a number that no call expects. */
    private int about(int bound) {
        return below(24) == 0 ? ODD[below(ODD.length)] : below(bound);
    }

    /** Fills circuit 1 with a rearranged copy of circuit 0: circuits made apart hardly ever match. */
    private void likeCircuits(int run) {
        int[] to = {0, 1, 2, 3, 4, 5};
        for (int i = 5; i > 0; i--) {
            int j = below(i + 1);
            int kept = to[i];
            to[i] = to[j];
            to[j] = kept;
        }
        int nets = 2 + below(5);
        for (int d = below(8); d > 0; d--) {
            int type = below(3);
            int g = below(nets);
            int x = below(nets);
            int y = below(nets);
            boolean turned = below(2) == 0;
            add("run " + run + ": ", 0, type, g + 8 * x + 64 * y);
            add("run " + run + ": ", 1, type, to[g] + 8 * to[turned ? y : x] + 64 * to[turned ? x : y]);
        }
        for (int n = below(3); n > 0; n--) {
            int i = below(6);
            int name = below(4);
            name("run " + run + ": ", 0, i, name);
            name("run " + run + ": ", 1, to[i], name);
        }
    }

    private void add(String at, int c, int type, int nets) {
        due.is(at + "add " + c + " " + type + " " + nets, matcher.add(c, type, nets), model.add(c, type, nets));
    }

    private void name(String at, int c, int i, int name) {
        due.is(at + "name " + c + " " + i + " " + name, matcher.name(c, i, name), model.name(c, i, name));
    }

    /** The changing calls are kept rare, and an added device is often a copy, so that matches last for a while. */
    private void call(String at) {
        int c = about(2);
        int i = about(6);
        int j = about(6);
        switch (below(40)) {
            case 0:
                add(at, c, about(3), below(12) == 0 ? about(512) : below(6) + 8 * below(6) + 64 * below(6));
                break;
            case 1:
                copyDevice(at);
                break;
            case 2:
                int d = about(7);
                due.is(at + "remove " + c + " " + d, matcher.remove(c, d), model.remove(c, d));
                break;
            case 3:
                name(at, c, i, below(3) == 0 ? about(5) : -1);
                break;
            default:
                ask(at, c, i, j);
        }
    }

    private void copyDevice(String at) {
        int c = below(2);
        int[] device = model.devices[c][below(7)];
        if (device != null) {
            add(at, c, device[0], device[1] + 8 * device[3] + 64 * device[2]);
        }
    }

    private void ask(String at, int c, int i, int j) {
        switch (below(9)) {
            case 0:
                due.is(at + "devices " + c, matcher.devices(c), model.present(c));
                break;
            case 1:
                due.is(at + "degree " + c + " " + i, matcher.degree(c, i), model.degree(c, i));
                break;
            case 2:
                due.is(at + "match", matcher.match(), !model.between(0, 1).isEmpty());
                break;
            case 3:
                due.is(at + "assigned " + i, matcher.assigned(i), model.assigned(i));
                break;
            case 4:
                due.is(at + "matches", matcher.matches(), model.between(0, 1).size());
                break;
            case 5:
                due.is(at + "candidates " + i, matcher.candidates(i), model.candidates(i));
                break;
            case 6:
                due.is(at + "symmetries " + c, matcher.symmetries(c), model.symmetries(c));
                break;
            case 7:
                due.is(at + "exchangeable " + c + " " + i + " " + j,
                    matcher.exchangeable(c, i, j), model.exchangeable(c, i, j));
                break;
            default:
                due.is(at + "surplus", matcher.surplus(), model.surplus());
        }
    }

    /** Keeps whole circuits and lists all matches by comparing the sorted device lists. */
    private static final class Model {
        private static final List<int[]> ALL = new ArrayList<>();

        static {
            for (int code = 0; code < 46656; code++) {
                int[] to = new int[6];
                int rest = code;
                for (int i = 5; i >= 0; i--) {
                    to[i] = rest % 6;
                    rest /= 6;
                }
                if (Arrays.stream(to).distinct().count() == 6) {
                    ALL.add(to);
                }
            }
        }

        private final int[][][] devices = new int[2][7][];
        private final int[][] names = {{-1, -1, -1, -1, -1, -1}, {-1, -1, -1, -1, -1, -1}};

        private static boolean within(int value, int bound) {
            return value >= 0 && value < bound;
        }

        int add(int c, int type, int nets) {
            for (int y = 0; y < 6; y++) {
                for (int x = 0; x < 6; x++) {
                    for (int g = 0; g < 6; g++) {
                        if (g + 8 * x + 64 * y == nets && within(c, 2) && within(type, 3)) {
                            return put(c, new int[] {type, g, x, y});
                        }
                    }
                }
            }
            return -1;
        }

        private int put(int c, int[] device) {
            for (int d = 0; d < 7; d++) {
                if (devices[c][d] == null) {
                    devices[c][d] = device;
                    return d;
                }
            }
            return -2;
        }

        boolean remove(int c, int d) {
            if (!within(c, 2) || !within(d, 7) || devices[c][d] == null) {
                return false;
            }
            devices[c][d] = null;
            return true;
        }

        boolean name(int c, int i, int name) {
            if (!within(c, 2) || !within(i, 6) || !within(name + 1, 5)) {
                return false;
            }
            names[c][i] = name;
            return true;
        }

        int present(int c) {
            int bits = 0;
            for (int d = 0; within(c, 2) && d < 7; d++) {
                bits += devices[c][d] == null ? 0 : 1 << d;
            }
            return bits;
        }

        int degree(int c, int i) {
            if (!within(c, 2) || !within(i, 6)) {
                return -1;
            }
            int sum = 0;
            for (int[] device : devices[c]) {
                for (int place = 1; device != null && place < 4; place++) {
                    boolean counts = place > 1 || device[0] != 2;
                    sum += counts && device[place] == i ? 1 : 0;
                }
            }
            return sum;
        }

        /** The devices as sorted words, with the nets replaced and the lesser end first. */
        private List<String> words(int c, int[] to) {
            List<String> words = new ArrayList<>();
            for (int[] device : devices[c]) {
                if (device != null) {
                    int x = to[device[2]];
                    int y = to[device[3]];
                    String gate = device[0] == 2 ? "-" : "" + to[device[1]];
                    words.add(device[0] + gate + Math.min(x, y) + Math.max(x, y));
                }
            }
            words.sort(null);
            return words;
        }

        List<int[]> between(int left, int right) {
            List<String> due = words(right, ALL.get(0));
            List<int[]> found = new ArrayList<>();
            for (int[] to : ALL) {
                boolean named = true;
                for (int i = 0; i < 6; i++) {
                    named = named && names[left][i] == names[right][to[i]];
                }
                if (named && words(left, to).equals(due)) {
                    found.add(to);
                }
            }
            return found;
        }

        int assigned(int i) {
            List<int[]> found = between(0, 1);
            return !within(i, 6) || found.isEmpty() ? -1 : found.get(0)[i];
        }

        int candidates(int i) {
            int bits = 0;
            if (within(i, 6)) {
                for (int[] to : between(0, 1)) {
                    bits |= 1 << to[i];
                }
            }
            return bits;
        }

        int symmetries(int c) {
            return within(c, 2) ? between(c, c).size() : -1;
        }

        boolean exchangeable(int c, int i, int j) {
            return within(c, 2) && within(i, 6) && between(c, c).stream().anyMatch(to -> to[i] == j);
        }

        int surplus() {
            for (int d = 0; d < 7; d++) {
                int[] device = devices[0][d];
                if (device != null) {
                    devices[0][d] = null;
                    boolean match = !between(0, 1).isEmpty();
                    devices[0][d] = device;
                    if (match) {
                        return d;
                    }
                }
            }
            return -1;
        }
    }
}
