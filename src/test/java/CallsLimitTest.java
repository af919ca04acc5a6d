import java.util.function.ToLongFunction;

/** "An object is used for at most 512 calls after it has been made": all of the 512 answer as the first ones do. */
final class CallsLimitTest {
    private static final int LIMIT = 512;
    private static final Due due = new Due();

    public static void main(String[] args) {
        sameQuestionTo("devices", 127, m -> m.devices(0));
        sameQuestionTo("degree", 4, m -> m.degree(0, 5));
        sameQuestionTo("match", 1, m -> m.match() ? 1 : 0);
        sameQuestionTo("assigned", 3, m -> m.assigned(2));
        sameQuestionTo("matches", 1, m -> m.matches());
        sameQuestionTo("candidates", 8, m -> m.candidates(2));
        sameQuestionTo("symmetries", 1, m -> m.symmetries(1));
        sameQuestionTo("exchangeable", 0, m -> m.exchangeable(1, 2, 3) ? 1 : 0);
        sameQuestionTo("surplus", NetMatcher.NONE, m -> m.surplus());
        sameQuestionTo("add to a full circuit", NetMatcher.FULL, m -> m.add(1, 0, 0));
        sameQuestionTo("add of wrong nets", NetMatcher.BAD, m -> m.add(1, 0, 6));
        sameQuestionTo("remove of no device", 0, m -> m.remove(0, 7) ? 1 : 0);
        sameQuestionTo("name again", 1, m -> m.name(0, 0, 0) ? 1 : 0);
        addAndRemove();
        allKinds();
        due.end();
    }

    /** Uses up the calls that are left with one question. */
    private static void sameQuestionTo(String call, long want, ToLongFunction<NetMatcher> made) {
        NetMatcher m = Circuits.rigid();
        for (int k = 18; k < LIMIT; k++) {
            due.is(call + ", call " + (k + 1), made.applyAsLong(m), want);
        }
    }

    /** Far more devices come and go than a circuit holds. */
    private static void addAndRemove() {
        NetMatcher m = new NetMatcher();
        for (int k = 0; k < LIMIT; k += 2) {
            due.is("add, call " + (k + 1), m.add(k / 2 % 2, k % 3, 365), 0);
            due.is("remove, call " + (k + 2), m.remove(k / 2 % 2, 0), true);
        }
    }

    /** 32 rounds of 16 calls, each round leaving the object as it found it; the very last call is a change. */
    private static void allKinds() {
        NetMatcher m = new NetMatcher();
        for (int k = 0; k < LIMIT; k += 16) {
            String at = "round from call " + (k + 1) + ": ";
            due.is(at + "add", m.add(0, 2, Circuits.nets(0, 4, 5)), 0);
            due.is(at + "surplus", m.surplus(), 0);
            due.is(at + "match", m.match(), false);
            due.is(at + "add", m.add(1, 2, Circuits.nets(0, 0, 1)), 0);
            due.is(at + "match", m.match(), true);
            due.is(at + "matches", m.matches(), 48);
            due.is(at + "name", m.name(0, 5, 3), true);
            due.is(at + "name", m.name(1, 0, 3), true);
            due.is(at + "assigned", m.assigned(4), 1);
            due.is(at + "candidates", m.candidates(0), 60);
            due.is(at + "symmetries", m.symmetries(0), 24);
            due.is(at + "exchangeable", m.exchangeable(1, 0, 1), false);
            due.is(at + "name", m.name(0, 5, NetMatcher.NONE), true);
            due.is(at + "name", m.name(1, 0, NetMatcher.NONE), true);
            due.is(at + "remove", m.remove(0, 0), true);
            due.is(at + "remove", m.remove(1, 0), true);
        }
    }
}
