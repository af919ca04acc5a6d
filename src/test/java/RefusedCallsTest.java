import java.util.LinkedHashMap;
import java.util.Map;
import java.util.function.ToLongFunction;

/** Promise 14: a refused call changes nothing. Every refusal, in several states, then all questions. */
final class RefusedCallsTest {
    private static final int STATES = 4;
    private static final Due due = new Due();

    /** Calls that every one of the states refuses, with the answer that is due. */
    private static final Map<String, ToLongFunction<NetMatcher>> calls = new LinkedHashMap<>();
    private static final Map<String, Long> answers = new LinkedHashMap<>();

    public static void main(String[] args) {
        refusedAdds();
        refusedRemovesAndNames();
        refusedQuestions();
        for (int state = 0; state < STATES; state++) {
            long[] want = Circuits.answers(inState(state));
            for (String call : calls.keySet()) {
                refuse(state, call, calls.get(call), answers.get(call), want);
            }
            refuseByState(state, want);
        }
        due.end();
    }

    private static NetMatcher inState(int state) {
        NetMatcher m = state == 0 ? new NetMatcher() : Circuits.rigid();
        if (state == 2) {
            m.remove(1, 3);
        }
        if (state == 3) {
            m.remove(0, 0);
            m.remove(1, 6);
        }
        return m;
    }

    private static void refuse(int state, String call, ToLongFunction<NetMatcher> made, long answer, long[] want) {
        NetMatcher m = inState(state);
        String at = "14: state " + state + ", " + call;
        due.is(at, made.applyAsLong(m), answer);
        long[] got = Circuits.answers(m);
        for (int k = 0; k < want.length; k++) {
            due.is(at + ", then question " + k, got[k], want[k]);
        }
    }

    /** Calls that are refused only where a circuit is full or a device is not there. */
    private static void refuseByState(int state, long[] want) {
        for (int c = 0; c < 2; c++) {
            int circuit = c;
            int devices = inState(state).devices(c);
            for (int nets : new int[] {0, 365, 275}) {
                if (devices == 127) {
                    for (int type = 0; type < 3; type++) {
                        int kind = type;
                        refuse(state, "add " + c + " " + type + " " + nets, m -> m.add(circuit, kind, nets),
                            NetMatcher.FULL, want);
                    }
                }
            }
            for (int d = 0; d < 7; d++) {
                int device = d;
                if ((devices >> d & 1) == 0) {
                    refuse(state, "remove " + c + " " + d, m -> m.remove(circuit, device) ? 1 : 0, 0, want);
                }
            }
        }
    }

    private static void refused(String call, long answer, ToLongFunction<NetMatcher> made) {
        calls.put(call, made);
        answers.put(call, answer);
    }

    private static void refusedAdds() {
        for (int c : Circuits.NO_CIRCUIT) {
            refused("add " + c + " 0 0", NetMatcher.BAD, m -> m.add(c, 0, 0));
        }
        for (int c = 0; c < 2; c++) {
            int circuit = c;
            for (int type : Circuits.NO_TYPE) {
                refused("add " + c + " " + type + " 0", NetMatcher.BAD, m -> m.add(circuit, type, 0));
            }
            for (int nets : new int[] {-1, 6, 7, 48, 56, 366, 384, 512, Circuits.LEAST, Circuits.GREATEST}) {
                refused("add " + c + " 0 " + nets, NetMatcher.BAD, m -> m.add(circuit, 0, nets));
                refused("add " + c + " 2 " + nets, NetMatcher.BAD, m -> m.add(circuit, 2, nets));
            }
        }
    }

    private static void refusedRemovesAndNames() {
        for (int c : Circuits.NO_CIRCUIT) {
            refused("remove " + c + " 0", 0, m -> m.remove(c, 0) ? 1 : 0);
            refused("name " + c + " 0 1", 0, m -> m.name(c, 0, 1) ? 1 : 0);
            refused("name " + c + " 0 -1", 0, m -> m.name(c, 0, NetMatcher.NONE) ? 1 : 0);
        }
        for (int c = 0; c < 2; c++) {
            int circuit = c;
            for (int d : Circuits.NO_DEVICE) {
                refused("remove " + c + " " + d, 0, m -> m.remove(circuit, d) ? 1 : 0);
            }
            for (int i : Circuits.NO_NET) {
                refused("name " + c + " " + i + " 1", 0, m -> m.name(circuit, i, 1) ? 1 : 0);
                refused("name " + c + " " + i + " -1", 0, m -> m.name(circuit, i, NetMatcher.NONE) ? 1 : 0);
            }
            for (int name : Circuits.NO_NAME) {
                refused("name " + c + " 0 " + name, 0, m -> m.name(circuit, 0, name) ? 1 : 0);
                refused("name " + c + " 5 " + name, 0, m -> m.name(circuit, 5, name) ? 1 : 0);
            }
        }
    }

    private static void refusedQuestions() {
        for (int c : Circuits.NO_CIRCUIT) {
            refused("devices " + c, 0, m -> m.devices(c));
            refused("degree " + c + " 0", NetMatcher.BAD, m -> m.degree(c, 0));
            refused("symmetries " + c, NetMatcher.BAD, m -> m.symmetries(c));
            refused("exchangeable " + c + " 0 0", 0, m -> m.exchangeable(c, 0, 0) ? 1 : 0);
        }
        for (int i : Circuits.NO_NET) {
            refused("degree 0 " + i, NetMatcher.BAD, m -> m.degree(0, i));
            refused("assigned " + i, NetMatcher.NONE, m -> m.assigned(i));
            refused("candidates " + i, 0, m -> m.candidates(i));
            refused("exchangeable 1 " + i + " 0", 0, m -> m.exchangeable(1, i, 0) ? 1 : 0);
            refused("exchangeable 0 0 " + i, 0, m -> m.exchangeable(0, 0, i) ? 1 : 0);
        }
    }
}
