/** One method for each promise of the document: ordinary inputs, the edges it names, and wrong inputs. */
final class PromisesTest {
    private static final int LEAST = Integer.MIN_VALUE;
    private static final int GREATEST = Integer.MAX_VALUE;
    private static final int[] NO_CIRCUIT = {-1, 2, 3, LEAST, GREATEST};
    private static final int[] NO_NET = {-1, 6, 7, 12, 32, 64, LEAST, GREATEST};
    private static final Due due = new Due();

    public static void main(String[] args) {
        promise1NewObject();
        promise2AddNumbers();
        promise2AddWrongInputs();
        promise3Remove();
        promise3RemoveWrongInputs();
        promise4Name();
        promise4NameWrongInputs();
        promise5Devices();
        promise6Degree();
        promise7MatchOfDevices();
        promise7MatchOfNames();
        promise7MatchCountsEqualDevices();
        promise8Assigned();
        promise8AssignedNone();
        promise9Matches();
        promise10Candidates();
        promise11Symmetries();
        promise12Exchangeable();
        promise13Surplus();
        promise13SurplusNone();
        promise14Order();
        promise14GateOfType2();
        promise14RefusedCallsChangeNothing();
        due.end();
    }

    private static int nets(int g, int x, int y) {
        return g + 8 * x + 64 * y;
    }

    /** Two circuits of one device each. */
    private static NetMatcher pair(int typeA, int netsA, int typeB, int netsB) {
        NetMatcher m = new NetMatcher();
        m.add(0, typeA, netsA);
        m.add(1, typeB, netsB);
        return m;
    }

    /** Circuit 1 bears the names of circuit 0's nets 0, 1, 2 at its nets 1, 2, 0: no assignment is its own inverse. */
    private static NetMatcher turnedNames() {
        NetMatcher m = new NetMatcher();
        for (int i = 0; i < 3; i++) {
            m.name(0, i, i);
            m.name(1, (i + 1) % 3, i);
        }
        return m;
    }

    private static NetMatcher withSeven(int c) {
        NetMatcher m = new NetMatcher();
        for (int d = 0; d < 7; d++) {
            m.add(c, d % 3, nets(d % 6, 1, 2));
        }
        return m;
    }

    private static void promise1NewObject() {
        NetMatcher used = withSeven(0);
        used.name(0, 0, 1);
        NetMatcher m = new NetMatcher();
        for (int c = 0; c < 2; c++) {
            due.is("1: devices", m.devices(c), 0);
            due.is("1: symmetries", m.symmetries(c), 720);
            for (int i = 0; i < 6; i++) {
                due.is("1: degree", m.degree(c, i), 0);
            }
        }
        due.is("1: match", m.match(), true);
        due.is("1: matches", m.matches(), 720);
        due.is("1: surplus", m.surplus(), NetMatcher.NONE);
        due.is("1: add", m.add(0, 0, 0), 0);
    }

    private static void promise2AddNumbers() {
        NetMatcher m = new NetMatcher();
        for (int d = 0; d < 7; d++) {
            due.is("2: add in order", m.add(0, d % 3, nets(d % 6, 5 - d % 6, 3)), d);
        }
        due.is("2: an eighth", m.add(0, 0, 0), NetMatcher.FULL);
        due.is("2: an eighth, again", m.add(0, 2, nets(5, 5, 5)), NetMatcher.FULL);
        due.is("2: full circuit", m.devices(0), 127);
        due.is("2: the other circuit has its own numbers", m.add(1, 0, 0), 0);
        m.remove(0, 5);
        m.remove(0, 1);
        m.remove(0, 2);
        due.is("2: least free number", m.add(0, 1, 0), 1);
        due.is("2: next free number", m.add(0, 1, 0), 2);
        due.is("2: last free number", m.add(0, 1, 0), 5);
        due.is("2: full again", m.add(0, 1, 0), NetMatcher.FULL);
        NetMatcher n = new NetMatcher();
        n.add(1, 0, nets(0, 1, 2));
        n.remove(1, 0);
        due.is("2: number used again", n.add(1, 1, nets(3, 4, 5)), 0);
        due.is("2: the old device's net", n.degree(1, 0) + n.degree(1, 1) + n.degree(1, 2), 0);
        due.is("2: the new device's gate", n.degree(1, 3), 1);
        due.is("2: the new device's first end", n.degree(1, 4), 1);
        due.is("2: the new device's second end", n.degree(1, 5), 1);
    }

    private static void promise2AddWrongInputs() {
        NetMatcher m = new NetMatcher();
        for (int c : NO_CIRCUIT) {
            due.is("2: add to circuit " + c, m.add(c, 0, 0), NetMatcher.BAD);
        }
        for (int type : new int[] {-1, 3, 4, LEAST, GREATEST}) {
            due.is("2: add of type " + type, m.add(0, type, 0), NetMatcher.BAD);
        }
        for (int type = 0; type < 3; type++) {
            for (int nets = -600; nets < 1200; nets++) {
                boolean good = nets >= 0 && nets % 8 < 6 && nets / 8 % 8 < 6 && nets / 64 < 6;
                due.is("2: add of nets " + nets, m.add(1, type, nets), good ? 0 : NetMatcher.BAD);
                due.is("2: devices after nets " + nets, m.devices(1), good ? 1 : 0);
                m = new NetMatcher();
            }
            for (int nets : new int[] {LEAST, LEAST + 1, GREATEST, 1 << 30, 1 << 16, 1 << 9, -512, -64, -8}) {
                due.is("2: add of nets " + nets, m.add(0, type, nets), NetMatcher.BAD);
            }
        }
        due.is("2: nothing added to 0", m.devices(0), 0);
        due.is("2: nothing added to 1", m.devices(1), 0);
    }

    private static void promise3Remove() {
        NetMatcher m = new NetMatcher();
        m.add(0, 0, nets(0, 1, 2));
        m.add(0, 0, nets(0, 1, 3));
        m.add(1, 0, nets(0, 1, 2));
        due.is("3: no match before", m.match(), false);
        due.is("3: remove", m.remove(0, 1), true);
        due.is("3: devices", m.devices(0), 1);
        due.is("3: other circuit's devices", m.devices(1), 1);
        due.is("3: degree", m.degree(0, 3), 0);
        due.is("3: match after", m.match(), true);
        due.is("3: remove twice", m.remove(0, 1), false);
        due.is("3: remove from 1", m.remove(1, 0), true);
        due.is("3: devices of 0 stay", m.devices(0), 1);
        due.is("3: devices of 1", m.devices(1), 0);
        NetMatcher full = withSeven(1);
        for (int d = 6; d >= 0; d--) {
            due.is("3: remove " + d, full.remove(1, d), true);
            due.is("3: devices without " + d, full.devices(1), (1 << d) - 1);
        }
    }

    private static void promise3RemoveWrongInputs() {
        for (int full = 0; full < 2; full++) {
            NetMatcher m = withSeven(full);
            for (int c = 0; c < 2; c++) {
                for (int d : new int[] {-1, 7, 8, 14, 31, 32, 33, 64, -32, -7, LEAST, GREATEST}) {
                    due.is("3: remove " + c + " " + d, m.remove(c, d), false);
                }
            }
            for (int c : NO_CIRCUIT) {
                due.is("3: remove from circuit " + c, m.remove(c, 0), false);
            }
            due.is("3: remove from the empty circuit", m.remove(1 - full, 0), false);
            due.is("3: nothing taken", m.devices(full), 127);
        }
    }

    private static void promise4Name() {
        for (int i = 0; i < 6; i++) {
            for (int name = 0; name < 4; name++) {
                NetMatcher m = new NetMatcher();
                due.is("4: name", m.name(0, i, name), true);
                due.is("4: named against none", m.match(), false);
                due.is("4: named net stays", m.symmetries(0), 120);
                due.is("4: other circuit unnamed", m.symmetries(1), 720);
                due.is("4: name the other", m.name(1, 5 - i, name), true);
                due.is("4: same names", m.assigned(i), 5 - i);
                due.is("4: another name", m.name(1, 5 - i, (name + 1) % 4), true);
                due.is("4: other names", m.match(), false);
                due.is("4: take away", m.name(1, 5 - i, NetMatcher.NONE), true);
                due.is("4: taken away in 1", m.match(), false);
                due.is("4: take away", m.name(0, i, NetMatcher.NONE), true);
                due.is("4: taken away in both", m.matches(), 720);
                due.is("4: take away what is not there", m.name(0, i, NetMatcher.NONE), true);
            }
        }
        NetMatcher m = new NetMatcher();
        m.name(0, 2, 3);
        due.is("4: a name may be given to two nets", m.name(0, 4, 3), true);
        due.is("4: two nets of a name", m.symmetries(0), 48);
    }

    private static void promise4NameWrongInputs() {
        NetMatcher m = new NetMatcher();
        m.name(0, 0, 2);
        m.name(1, 0, 2);
        for (int c : NO_CIRCUIT) {
            due.is("4: name in circuit " + c, m.name(c, 0, 1), false);
        }
        for (int c = 0; c < 2; c++) {
            for (int i : NO_NET) {
                due.is("4: name of net " + i, m.name(c, i, 1), false);
                due.is("4: no name of net " + i, m.name(c, i, NetMatcher.NONE), false);
            }
            for (int name : new int[] {-2, 4, 5, LEAST, GREATEST}) {
                due.is("4: name " + name, m.name(c, 0, name), false);
                due.is("4: name " + name, m.name(c, 3, name), false);
            }
            due.is("4: names as before", m.symmetries(c), 120);
        }
        due.is("4: the same name as before", m.candidates(0), 1);
        due.is("4: matches as before", m.matches(), 120);
    }

    private static void promise5Devices() {
        NetMatcher m = new NetMatcher();
        m.add(1, 0, 0);
        m.add(1, 1, 0);
        m.add(1, 2, 0);
        m.add(0, 2, 0);
        due.is("5: devices of 0", m.devices(0), 1);
        due.is("5: devices of 1", m.devices(1), 7);
        m.remove(1, 1);
        due.is("5: devices with a gap", m.devices(1), 5);
        for (int c : NO_CIRCUIT) {
            due.is("5: devices of " + c, m.devices(c), 0);
        }
    }

    private static void promise6Degree() {
        NetMatcher m = new NetMatcher();
        m.add(0, 0, nets(0, 1, 2));
        m.add(0, 1, nets(1, 1, 1));
        m.add(0, 2, nets(3, 4, 4));
        m.add(0, 2, nets(5, 5, 2));
        int[] want = {1, 4, 2, 0, 2, 1};
        for (int i = 0; i < 6; i++) {
            due.is("6: degree of " + i, m.degree(0, i), want[i]);
            due.is("6: degree in the empty circuit", m.degree(1, i), 0);
        }
        m.remove(0, 1);
        due.is("6: degree after remove", m.degree(0, 1), 1);
        for (int c : NO_CIRCUIT) {
            due.is("6: degree in " + c, m.degree(c, 0), NetMatcher.BAD);
        }
        for (int i : NO_NET) {
            due.is("6: degree of " + i, m.degree(0, i), NetMatcher.BAD);
            due.is("6: degree of " + i, m.degree(1, i), NetMatcher.BAD);
        }
        NetMatcher most = new NetMatcher();
        for (int d = 0; d < 7; d++) {
            most.add(1, d % 2, nets(5, 5, 5));
        }
        due.is("6: greatest degree", most.degree(1, 5), 21);
        due.is("6: that of the other circuit", most.degree(0, 5), 0);
    }

    private static void promise7MatchOfDevices() {
        int abc = nets(0, 1, 2);
        due.is("7: same device", pair(0, abc, 0, abc).match(), true);
        due.is("7: other nets", pair(1, abc, 1, nets(5, 4, 3)).match(), true);
        due.is("7: other type", pair(0, abc, 1, abc).match(), false);
        due.is("7: gate or none", pair(0, abc, 2, abc).match(), false);
        due.is("7: ends at one net or at two", pair(0, abc, 0, nets(0, 1, 1)).match(), false);
        due.is("7: gate at an end", pair(0, abc, 0, nets(1, 1, 2)).match(), false);
        due.is("7: gate at either end", pair(0, nets(1, 1, 2), 0, nets(2, 1, 2)).match(), true);
        due.is("7: all at one net", pair(1, nets(0, 0, 0), 1, nets(5, 5, 5)).match(), true);
        due.is("7: gate of type 2", pair(2, nets(1, 1, 2), 2, nets(5, 1, 2)).match(), true);
        due.is("7: type 2 at one net", pair(2, nets(1, 1, 1), 2, nets(1, 1, 2)).match(), false);
        NetMatcher more = pair(0, abc, 0, abc);
        more.add(1, 0, nets(3, 4, 5));
        due.is("7: more in 1", more.match(), false);
        more.add(0, 0, nets(5, 3, 4));
        due.is("7: as many in both", more.match(), true);
        due.is("7: other type of the second", more.remove(0, 1), true);
        more.add(0, 1, nets(5, 3, 4));
        due.is("7: as many, but of other types", more.match(), false);
        NetMatcher cross = pair(0, nets(0, 1, 2), 0, nets(0, 2, 1));
        for (int i = 0; i < 3; i++) {
            cross.name(0, i, i);
            cross.name(1, i, i);
        }
        due.is("7: ends exchanged", cross.match(), true);
        NetMatcher moved = pair(0, nets(0, 1, 2), 0, nets(1, 0, 2));
        moved.name(0, 0, 0);
        moved.name(1, 0, 0);
        due.is("7: a gate is no end", moved.match(), false);
    }

    private static void promise7MatchOfNames() {
        NetMatcher m = pair(0, nets(0, 1, 2), 0, nets(0, 1, 2));
        m.name(0, 0, 0);
        due.is("7: name 0 is not none", m.match(), false);
        m.name(1, 1, 0);
        due.is("7: name at an end, not at the gate", m.match(), false);
        m.name(1, 1, NetMatcher.NONE);
        m.name(1, 0, 0);
        due.is("7: name at both gates", m.match(), true);
        m.name(0, 5, 2);
        due.is("7: name of a net without device in 0", m.match(), false);
        m.name(1, 4, 2);
        due.is("7: such a name in both", m.match(), true);
        m.name(1, 5, 2);
        due.is("7: a name once and twice", m.match(), false);
        NetMatcher single = turnedNames();
        single.add(0, 0, nets(3, 4, 4));
        single.add(1, 0, nets(5, 3, 3));
        due.is("7: a single match", single.match(), true);
        due.is("7: no other match", single.matches(), 1);
    }

    private static void promise7MatchCountsEqualDevices() {
        NetMatcher m = new NetMatcher();
        for (int c = 0; c < 2; c++) {
            m.name(c, 0, 0);
            m.name(c, 1, 1);
            m.add(c, 0, nets(0, 0, 0));
            m.add(c, 0, nets(1, 1, 1));
        }
        m.add(0, 0, nets(0, 0, 0));
        m.add(1, 0, nets(1, 1, 1));
        due.is("7: two and one against one and two", m.match(), false);
        m.add(0, 0, nets(1, 1, 1));
        m.add(1, 0, nets(0, 0, 0));
        due.is("7: two and two", m.match(), true);
    }

    private static void promise8Assigned() {
        NetMatcher turned = turnedNames();
        int[] wantTurned = {1, 2, 0, 3, 4, 5};
        NetMatcher two = pair(2, nets(0, 0, 1), 2, nets(0, 5, 4));
        int[] wantTwo = {4, 5, 0, 1, 2, 3};
        NetMatcher four = pair(2, nets(0, 0, 1), 2, nets(0, 0, 5));
        four.add(0, 2, nets(0, 2, 3));
        four.add(1, 2, nets(0, 4, 1));
        int[] wantFour = {0, 5, 1, 4, 2, 3};
        NetMatcher last = pair(1, nets(5, 5, 5), 1, nets(0, 0, 0));
        int[] wantLast = {1, 2, 3, 4, 5, 0};
        for (int i = 0; i < 6; i++) {
            due.is("8: turned names, " + i, turned.assigned(i), wantTurned[i]);
            due.is("8: two nets, " + i, two.assigned(i), wantTwo[i]);
            due.is("8: two pairs, " + i, four.assigned(i), wantFour[i]);
            due.is("8: one net, " + i, last.assigned(i), wantLast[i]);
            due.is("8: empty circuits, " + i, new NetMatcher().assigned(i), i);
        }
    }

    private static void promise8AssignedNone() {
        NetMatcher m = new NetMatcher();
        for (int i : NO_NET) {
            due.is("8: assigned to " + i, m.assigned(i), NetMatcher.NONE);
        }
        due.is("8: a match first", m.assigned(2), 2);
        m.add(0, 0, 0);
        for (int i = 0; i < 6; i++) {
            due.is("8: no match, " + i, m.assigned(i), NetMatcher.NONE);
        }
    }

    private static void promise9Matches() {
        due.is("9: gate and two ends", pair(0, nets(0, 1, 2), 0, nets(3, 4, 5)).matches(), 12);
        due.is("9: two ends", pair(2, nets(0, 1, 2), 2, nets(3, 4, 5)).matches(), 48);
        due.is("9: one net", pair(0, nets(2, 2, 2), 0, nets(3, 3, 3)).matches(), 120);
        due.is("9: none", pair(0, nets(2, 2, 2), 1, nets(2, 2, 2)).matches(), 0);
        due.is("9: turned names", turnedNames().matches(), 6);
        NetMatcher twice = pair(0, nets(0, 1, 2), 0, nets(3, 4, 5));
        twice.add(0, 0, nets(0, 2, 1));
        twice.add(1, 0, nets(3, 4, 5));
        due.is("9: equal devices make no further matches", twice.matches(), 12);
    }

    private static void promise10Candidates() {
        NetMatcher m = pair(0, nets(0, 1, 2), 0, nets(3, 4, 5));
        int[] want = {8, 48, 48, 7, 7, 7};
        NetMatcher turned = turnedNames();
        int[] wantTurned = {2, 4, 1, 56, 56, 56};
        NetMatcher none = pair(0, 0, 1, 0);
        for (int i = 0; i < 6; i++) {
            due.is("10: candidates of " + i, m.candidates(i), want[i]);
            due.is("10: turned names, " + i, turned.candidates(i), wantTurned[i]);
            due.is("10: no match, " + i, none.candidates(i), 0);
            due.is("10: empty circuits, " + i, new NetMatcher().candidates(i), 63);
        }
        for (int i : NO_NET) {
            due.is("10: candidates of " + i, m.candidates(i), 0);
        }
    }

    private static void promise11Symmetries() {
        NetMatcher m = pair(0, nets(0, 1, 2), 2, nets(0, 1, 2));
        due.is("11: of 0", m.symmetries(0), 12);
        due.is("11: of 1", m.symmetries(1), 48);
        m.name(1, 1, 3);
        due.is("11: a name in 1", m.symmetries(1), 24);
        due.is("11: 0 as before", m.symmetries(0), 12);
        m.add(0, 1, nets(3, 4, 4));
        due.is("11: no net left to move", m.symmetries(0), 2);
        for (int c : NO_CIRCUIT) {
            due.is("11: of " + c, m.symmetries(c), NetMatcher.BAD);
        }
        for (int i = 0; i < 4; i++) {
            m.name(0, i, i);
        }
        due.is("11: all but two nets named", m.symmetries(0), 1);
    }

    private static void promise12Exchangeable() {
        NetMatcher m = pair(0, nets(0, 1, 2), 2, nets(0, 4, 5));
        m.name(1, 0, 0);
        m.name(1, 1, 0);
        int[] kinds0 = {0, 1, 1, 2, 2, 2};
        int[] kinds1 = {0, 0, 1, 1, 2, 2};
        for (int i = 0; i < 6; i++) {
            for (int j = 0; j < 6; j++) {
                due.is("12: in 0, " + i + " " + j, m.exchangeable(0, i, j), kinds0[i] == kinds0[j]);
                due.is("12: in 1, " + i + " " + j, m.exchangeable(1, i, j), kinds1[i] == kinds1[j]);
            }
        }
        NetMatcher empty = new NetMatcher();
        for (int c : NO_CIRCUIT) {
            due.is("12: in circuit " + c, empty.exchangeable(c, 0, 0), false);
        }
        for (int i : NO_NET) {
            due.is("12: nets " + i + " 0", empty.exchangeable(0, i, 0), false);
            due.is("12: nets 0 " + i, empty.exchangeable(1, 0, i), false);
            due.is("12: nets " + i + " " + i, empty.exchangeable(1, i, i), false);
        }
    }

    private static void promise13Surplus() {
        NetMatcher m = new NetMatcher();
        m.add(0, 0, nets(0, 1, 2));
        m.add(0, 1, nets(0, 1, 2));
        m.add(0, 2, nets(0, 1, 2));
        m.add(1, 2, nets(0, 3, 4));
        m.add(1, 0, nets(5, 3, 4));
        due.is("13: one too many", m.surplus(), 1);
        due.is("13: devices stay", m.devices(0), 7);
        due.is("13: still no match", m.match(), false);
        due.is("13: degree stays", m.degree(0, 1), 3);
        m.add(1, 1, nets(5, 3, 4));
        due.is("13: a match, none too many", m.surplus(), NetMatcher.NONE);
        NetMatcher gap = new NetMatcher();
        for (int d = 0; d < 4; d++) {
            gap.add(0, 0, nets(0, 1, 1));
        }
        gap.remove(0, 0);
        gap.remove(0, 2);
        gap.add(1, 0, nets(5, 4, 4));
        due.is("13: least of the two that are there", gap.surplus(), 1);
        NetMatcher seven = withSeven(0);
        for (int d = 0; d < 6; d++) {
            seven.add(1, d % 3, nets(d % 6, 1, 2));
        }
        seven.name(0, 0, 0);
        seven.name(1, 0, 0);
        seven.name(0, 3, 1);
        seven.name(1, 3, 1);
        due.is("13: the least of equal ones", seven.surplus(), 0);
        seven.name(0, 1, 2);
        seven.name(1, 1, 2);
        seven.remove(0, 6);
        seven.add(0, 1, nets(5, 5, 5));
        due.is("13: the last", seven.surplus(), 6);
    }

    private static void promise13SurplusNone() {
        due.is("13: no devices", new NetMatcher().surplus(), NetMatcher.NONE);
        NetMatcher one = new NetMatcher();
        one.add(1, 0, 0);
        due.is("13: one too many in 1 only", one.surplus(), NetMatcher.NONE);
        one.remove(1, 0);
        one.add(0, 0, 0);
        due.is("13: one device against none", one.surplus(), 0);
        one.name(0, 3, 0);
        due.is("13: names that keep apart", one.surplus(), NetMatcher.NONE);
        one.name(0, 3, NetMatcher.NONE);
        one.add(0, 0, 0);
        due.is("13: two too many", one.surplus(), NetMatcher.NONE);
        due.is("13: a device in each that differs", pair(0, 0, 1, 0).surplus(), NetMatcher.NONE);
    }

    private static void promise14Order() {
        for (int c = 0; c < 2; c++) {
            NetMatcher m = withSeven(c);
            due.is("14: full", m.add(c, 0, 0), NetMatcher.FULL);
            due.is("14: bad type before full", m.add(c, 3, 0), NetMatcher.BAD);
            due.is("14: bad type before full", m.add(c, -1, 0), NetMatcher.BAD);
            due.is("14: bad nets before full", m.add(c, 0, -1), NetMatcher.BAD);
            due.is("14: bad gate before full", m.add(c, 2, 6), NetMatcher.BAD);
            due.is("14: bad end before full", m.add(c, 0, nets(0, 6, 0)), NetMatcher.BAD);
            due.is("14: bad end before full", m.add(c, 0, nets(0, 0, 6)), NetMatcher.BAD);
            due.is("14: bad circuit", m.add(2, 0, 0), NetMatcher.BAD);
            due.is("14: nets below 0", new NetMatcher().add(c, 0, -512), NetMatcher.BAD);
            due.is("14: nets far below 0", new NetMatcher().add(c, 0, LEAST), NetMatcher.BAD);
        }
    }

    private static void promise14GateOfType2() {
        NetMatcher m = new NetMatcher();
        due.is("14: gate 6 of type 2", m.add(0, 2, nets(6, 1, 2)), NetMatcher.BAD);
        due.is("14: gate 7 of type 2", m.add(0, 2, nets(7, 1, 2)), NetMatcher.BAD);
        for (int g = 0; g < 6; g++) {
            NetMatcher n = pair(2, nets(g, 1, 2), 2, nets(5 - g, 1, 2));
            due.is("14: degree of the end", n.degree(0, 1), 1);
            due.is("14: degree of the rest", n.degree(0, 0) + n.degree(0, 3) + n.degree(0, 4) + n.degree(0, 5), 0);
            due.is("14: matches", n.matches(), 48);
            due.is("14: symmetries", n.symmetries(0), 48);
            due.is("14: exchangeable", n.exchangeable(0, 1, 2), true);
            due.is("14: exchangeable", n.exchangeable(1, 0, 5), true);
            due.is("14: candidates", n.candidates(1), 6);
            due.is("14: assigned", n.assigned(0), 0);
            n.add(0, 2, nets(g, 1, 2));
            due.is("14: surplus", n.surplus(), 0);
        }
    }

    private static void promise14RefusedCallsChangeNothing() {
        NetMatcher m = withSeven(0);
        m.name(0, 3, 1);
        int degree = m.degree(0, 1);
        int symmetries = m.symmetries(0);
        m.add(0, 0, nets(1, 1, 1));
        m.add(0, 3, nets(1, 1, 1));
        m.add(0, 0, nets(1, 1, 6));
        m.add(2, 0, nets(1, 1, 1));
        m.remove(0, 7);
        m.remove(2, 0);
        m.name(0, 3, 4);
        m.name(0, 6, 0);
        m.name(2, 3, 0);
        due.is("14: devices of 0", m.devices(0), 127);
        due.is("14: devices of 1", m.devices(1), 0);
        due.is("14: degree", m.degree(0, 1), degree);
        due.is("14: symmetries of 0", m.symmetries(0), symmetries);
        due.is("14: symmetries of 1", m.symmetries(1), 720);
    }
}
