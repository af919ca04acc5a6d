/** One method for each sentence of the document that names a boundary case; a method's labels begin with its promise. */
final class BoundaryTest {
    private static final int BAD = NetMatcher.BAD;
    private static final int FULL = NetMatcher.FULL;
    private static final int NONE = NetMatcher.NONE;
    private static final Due due = new Due();

    public static void main(String[] args) {
        termsEndsMayBeTheSameNet();
        termsEndsCanBeExchanged();
        termsSameNameOrBothNone();
        termsAsManyInTheOneAsInTheOther();
        termsFirstMatchIsLeast();
        promise1NoDevices();
        promise1NoNames();
        promise2LeastAndGreatestAllowed();
        promise2BadCircuit();
        promise2BadType();
        promise2BadGate();
        promise2BadFirstEnd();
        promise2BadSecondEnd();
        promise2BadNets();
        promise2FullWithSeven();
        promise2LeastNumber();
        promise3LeastAndGreatestAllowed();
        promise3NoSuchDevice();
        promise3NoSuchCircuit();
        promise3DeviceTakenBefore();
        promise4LeastAndGreatestAllowed();
        promise4TakesAway();
        promise4BadCircuit();
        promise4BadNet();
        promise4BadName();
        promise5LeastAndGreatest();
        promise5NoSuchCircuit();
        promise6BothEndsCountTwice();
        promise6GateOfType2DoesNotCount();
        promise6LeastAndGreatest();
        promise6BadCircuit();
        promise6BadNet();
        promise7EmptyCircuits();
        promise7FullCircuits();
        promise7NoMatch();
        promise8LeastAndGreatest();
        promise8NoMatch();
        promise8BadNet();
        promise9EmptyCircuits();
        promise9FullCircuits();
        promise9NoMatch();
        promise10LeastAndGreatest();
        promise10NoMatch();
        promise10BadNet();
        promise11LeastAndGreatest();
        promise11AsIfBothWereTheCircuit();
        promise11BadCircuit();
        promise12LeastAndGreatest();
        promise12BadCircuit();
        promise12BadNet();
        promise13LeastAndGreatest();
        promise13LeastOfSeveral();
        promise13TakenFromCircuit0Only();
        promise13None();
        promise14BadBeforeFull();
        promise14NetsBelow0();
        promise14GateOfType2Is0To5();
        promise14GateOfType2ShowsInNoAnswer();
        due.end();
    }

    private static int nets(int g, int x, int y) {
        return Circuits.nets(g, x, y);
    }

    /** Two circuits of one device each. */
    private static NetMatcher pair(int type, int nets0, int nets1) {
        NetMatcher m = new NetMatcher();
        m.add(0, type, nets0);
        m.add(1, type, nets1);
        return m;
    }

    private static NetMatcher rigidWithout(int c, int d) {
        NetMatcher m = Circuits.rigid();
        m.remove(c, d);
        return m;
    }

    /** Gives nets 0, 1 and 2 of both circuits the names 0, 1 and 2. */
    private static void nameThree(NetMatcher m) {
        for (int i = 0; i < 3; i++) {
            m.name(0, i, i);
            m.name(1, i, i);
        }
    }

    private static void termsEndsMayBeTheSameNet() {
        for (int type = 0; type < 3; type++) {
            for (int x = 0; x < 6; x++) {
                NetMatcher m = pair(type, nets(0, x, x), nets(0, x, x));
                due.is("Terms: both ends at net " + x, m.devices(0), 1);
                due.is("Terms: such devices match", m.match(), true);
            }
            due.is("Terms: ends at one net or at two", pair(type, nets(0, 1, 1), nets(0, 1, 2)).match(), false);
            due.is("Terms: ends at two nets or at one", pair(type, nets(0, 1, 2), nets(0, 2, 2)).match(), false);
        }
    }

    private static void termsEndsCanBeExchanged() {
        for (int type = 0; type < 3; type++) {
            NetMatcher m = pair(type, nets(0, 1, 2), nets(0, 2, 1));
            nameThree(m);
            due.is("Terms: ends exchanged", m.match(), true);
            m.add(0, type, nets(0, 2, 1));
            due.is("Terms: the same device twice, one turned", m.match(), false);
            m.add(1, type, nets(0, 2, 1));
            due.is("Terms: two turned against one turned", m.match(), true);
        }
        for (int type = 0; type < 2; type++) {
            NetMatcher m = pair(type, nets(0, 1, 2), nets(1, 0, 2));
            nameThree(m);
            due.is("Terms: gate and first end exchanged", m.match(), false);
            NetMatcher n = pair(type, nets(0, 1, 2), nets(2, 1, 0));
            nameThree(n);
            due.is("Terms: gate and second end exchanged", n.match(), false);
        }
    }

    private static void termsSameNameOrBothNone() {
        for (int a = NONE; a < 4; a++) {
            for (int b = NONE; b < 4; b++) {
                NetMatcher m = new NetMatcher();
                m.name(0, 0, a);
                m.name(1, 5, b);
                due.is("Terms: names " + a + " and " + b, m.match(), a == b);
            }
        }
    }

    private static void termsAsManyInTheOneAsInTheOther() {
        for (int copies0 = 0; copies0 < 8; copies0++) {
            for (int copies1 = 0; copies1 < 8; copies1++) {
                NetMatcher m = new NetMatcher();
                nameThree(m);
                // Seven in each, so that only the share of each kind can tell the circuits apart.
                for (int d = 0; d < 7; d++) {
                    m.add(0, 2, d < copies0 ? nets(0, 0, 1) : nets(0, 1, 2));
                    m.add(1, 2, d < copies1 ? nets(0, 0, 1) : nets(0, 1, 2));
                }
                due.is("Terms: " + copies0 + " and " + copies1 + " copies", m.match(), copies0 == copies1);
            }
        }
    }

    private static void termsFirstMatchIsLeast() {
        NetMatcher m = pair(2, nets(0, 4, 5), nets(0, 0, 1));
        int[] want = {2, 3, 4, 5, 0, 1};
        NetMatcher empty = new NetMatcher();
        for (int i = 0; i < 6; i++) {
            due.is("Terms: first match, net " + i, m.assigned(i), want[i]);
            due.is("Terms: first match of empty circuits, net " + i, empty.assigned(i), i);
        }
    }

    private static void promise1NoDevices() {
        Circuits.rigid();
        for (int c = 0; c < 2; c++) {
            NetMatcher m = new NetMatcher();
            due.is("1: devices", m.devices(c), 0);
            for (int i = 0; i < 6; i++) {
                due.is("1: degree", m.degree(c, i), 0);
            }
            for (int d = 0; d < 7; d++) {
                due.is("1: no device to remove", m.remove(c, d), false);
            }
            due.is("1: surplus", m.surplus(), NONE);
            due.is("1: first device", m.add(c, 0, 0), 0);
        }
    }

    private static void promise1NoNames() {
        Circuits.rigid();
        for (int c = 0; c < 2; c++) {
            due.is("1: nothing tells nets apart", new NetMatcher().symmetries(c), 720);
            for (int i = 0; i < 6; i++) {
                NetMatcher m = new NetMatcher();
                m.name(c, i, NONE);
                due.is("1: no name to take away", m.matches(), 720);
                for (int name = 0; name < 4; name++) {
                    m.name(c, i, name);
                    due.is("1: name " + name + " is not there", m.match(), false);
                }
            }
        }
    }

    private static void promise2LeastAndGreatestAllowed() {
        for (int c = 0; c < 2; c++) {
            for (int type = 0; type < 3; type++) {
                NetMatcher least = new NetMatcher();
                due.is("2: least nets", least.add(c, type, 0), 0);
                due.is("2: least nets, degree", least.degree(c, 0), type == 2 ? 2 : 3);
                NetMatcher greatest = new NetMatcher();
                due.is("2: greatest nets", greatest.add(c, type, 365), 0);
                due.is("2: greatest nets, degree", greatest.degree(c, 5), type == 2 ? 2 : 3);
                due.is("2: the other circuit", greatest.devices(1 - c), 0);
            }
            for (int place = 0; place < 3; place++) {
                for (int net = 0; net < 6; net += 5) {
                    NetMatcher m = new NetMatcher();
                    int nets = nets(place == 0 ? net : 1, place == 1 ? net : 2, place == 2 ? net : 3);
                    due.is("2: nets " + nets, m.add(c, 0, nets), 0);
                    due.is("2: nets " + nets + ", degree", m.degree(c, net), 1);
                }
            }
        }
    }

    private static void promise2BadCircuit() {
        NetMatcher m = new NetMatcher();
        for (int c : Circuits.NO_CIRCUIT) {
            for (int type = 0; type < 3; type++) {
                due.is("2: circuit " + c, m.add(c, type, 0), BAD);
                due.is("2: circuit " + c, m.add(c, type, 365), BAD);
            }
        }
        due.is("2: nothing added", m.devices(0) + m.devices(1), 0);
    }

    private static void promise2BadType() {
        NetMatcher m = new NetMatcher();
        for (int type : Circuits.NO_TYPE) {
            for (int c = 0; c < 2; c++) {
                due.is("2: type " + type, m.add(c, type, 0), BAD);
                due.is("2: type " + type, m.add(c, type, 365), BAD);
            }
        }
        due.is("2: nothing added", m.devices(0) + m.devices(1), 0);
    }

    private static void promise2BadGate() {
        for (int type = 0; type < 3; type++) {
            NetMatcher m = new NetMatcher();
            for (int g = 6; g < 8; g++) {
                due.is("2: gate " + g, m.add(0, type, nets(g, 0, 0)), BAD);
                due.is("2: gate " + g, m.add(1, type, nets(g, 5, 5)), BAD);
            }
            due.is("2: gate -1 is gate 7", m.add(0, type, nets(-1, 1, 0)), BAD);
            due.is("2: gate 8 is an end at 1", m.add(0, type, nets(8, 0, 0)), 0);
            due.is("2: one above the greatest", m.add(0, type, 366), BAD);
            due.is("2: one added", m.devices(0) + m.devices(1), 1);
        }
    }

    private static void promise2BadFirstEnd() {
        for (int type = 0; type < 3; type++) {
            NetMatcher m = new NetMatcher();
            for (int x = 6; x < 8; x++) {
                due.is("2: first end " + x, m.add(0, type, nets(0, x, 0)), BAD);
                due.is("2: first end " + x, m.add(1, type, nets(5, x, 5)), BAD);
            }
            due.is("2: first end -1 is 7", m.add(0, type, nets(0, -1, 1)), BAD);
            due.is("2: first end 8 is a second end at 1", m.add(0, type, nets(0, 8, 0)), 0);
            due.is("2: one added", m.devices(0) + m.devices(1), 1);
        }
    }

    private static void promise2BadSecondEnd() {
        for (int type = 0; type < 3; type++) {
            NetMatcher m = new NetMatcher();
            // 8, 16 and so on would be 0 again if only three bits were looked at.
            for (int y : new int[] {-1, 6, 7, 8, 13, 16, 64, 1 << 10, 1 << 20, (1 << 25) - 1, -1 << 25}) {
                due.is("2: second end " + y, m.add(0, type, nets(0, 0, y)), BAD);
                due.is("2: second end " + y, m.add(1, type, nets(5, 5, y)), BAD);
            }
            due.is("2: nothing added", m.devices(0) + m.devices(1), 0);
        }
    }

    private static void promise2BadNets() {
        for (int type = 0; type < 3; type++) {
            NetMatcher m = new NetMatcher();
            for (int nets : new int[] {-1, 366, 511, 512, Circuits.LEAST, Circuits.GREATEST}) {
                due.is("2: nets " + nets, m.add(0, type, nets), BAD);
                due.is("2: nets " + nets, m.add(1, type, nets), BAD);
            }
            for (int bit = 9; bit < 32; bit++) {
                due.is("2: nets with bit " + bit, m.add(0, type, 1 << bit), BAD);
                due.is("2: nets with bit " + bit, m.add(1, type, 1 << bit | 365), BAD);
            }
            due.is("2: nothing added", m.devices(0) + m.devices(1), 0);
        }
    }

    private static void promise2FullWithSeven() {
        for (int c = 0; c < 2; c++) {
            NetMatcher m = new NetMatcher();
            for (int d = 0; d < 7; d++) {
                due.is("2: device " + d, m.add(c, d % 3, nets(d % 6, 0, 5)), d);
            }
            for (int type = 0; type < 3; type++) {
                due.is("2: an eighth, least nets", m.add(c, type, 0), FULL);
                due.is("2: an eighth, greatest nets", m.add(c, type, 365), FULL);
            }
            due.is("2: seven stay", m.devices(c), 127);
            due.is("2: the other circuit is not full", m.add(1 - c, 0, 0), 0);
            m.remove(c, 6);
            due.is("2: one of seven gone", m.add(c, 0, 0), 6);
            due.is("2: full again", m.add(c, 0, 0), FULL);
        }
    }

    private static void promise2LeastNumber() {
        for (int c = 0; c < 2; c++) {
            for (int gaps = 1; gaps < 128; gaps++) {
                NetMatcher m = Circuits.withSeven(c);
                // From the last to the first: the number that was freed first must not come first.
                for (int d = 6; d >= 0; d--) {
                    if ((gaps >> d & 1) == 1) {
                        m.remove(c, d);
                    }
                }
                for (int d = 0; d < 7; d++) {
                    if ((gaps >> d & 1) == 1) {
                        due.is("2: least number, gaps " + gaps, m.add(c, 0, 0), d);
                    }
                }
                due.is("2: no gap left of " + gaps, m.add(c, 0, 0), FULL);
            }
        }
    }

    private static void promise3LeastAndGreatestAllowed() {
        for (int c = 0; c < 2; c++) {
            for (int d = 0; d < 7; d++) {
                NetMatcher m = Circuits.rigid();
                due.is("3: remove " + d, m.remove(c, d), true);
                due.is("3: without " + d, m.devices(c), 127 & ~(1 << d));
                due.is("3: the other circuit", m.devices(1 - c), 127);
                due.is("3: the other circuit's device " + d, m.remove(1 - c, d), true);
                due.is("3: the same one gone from both", m.match(), true);
            }
            NetMatcher last = new NetMatcher();
            last.add(c, 0, 0);
            due.is("3: the only device", last.remove(c, 0), true);
            due.is("3: none left", last.devices(c), 0);
            due.is("3: none at net 0", last.degree(c, 0), 0);
        }
    }

    private static void promise3NoSuchDevice() {
        for (int c = 0; c < 2; c++) {
            NetMatcher m = Circuits.rigid();
            for (int d : Circuits.NO_DEVICE) {
                due.is("3: remove " + d, m.remove(c, d), false);
            }
            due.is("3: none taken from 0", m.devices(0), 127);
            due.is("3: none taken from 1", m.devices(1), 127);
            NetMatcher other = Circuits.withSeven(c);
            for (int d = 0; d < 7; d++) {
                due.is("3: remove from the empty circuit", other.remove(1 - c, d), false);
            }
            due.is("3: none taken from the other circuit", other.devices(c), 127);
            NetMatcher one = new NetMatcher();
            one.add(c, 0, 0);
            due.is("3: one above the last device", one.remove(c, 1), false);
            due.is("3: the device stays", one.devices(c), 1);
        }
    }

    private static void promise3NoSuchCircuit() {
        NetMatcher m = Circuits.rigid();
        for (int c : Circuits.NO_CIRCUIT) {
            due.is("3: circuit " + c, m.remove(c, 0), false);
            due.is("3: circuit " + c, m.remove(c, 6), false);
            for (int d : Circuits.NO_DEVICE) {
                due.is("3: circuit " + c + " device " + d, m.remove(c, d), false);
            }
        }
        due.is("3: none taken from 0", m.devices(0), 127);
        due.is("3: none taken from 1", m.devices(1), 127);
    }

    private static void promise3DeviceTakenBefore() {
        for (int c = 0; c < 2; c++) {
            for (int d = 0; d < 7; d++) {
                NetMatcher m = rigidWithout(c, d);
                due.is("3: remove twice", m.remove(c, d), false);
                due.is("3: the others stay", m.devices(c), 127 & ~(1 << d));
                due.is("3: the number is free once", m.add(c, 0, 0), d);
                due.is("3: the new one can be taken", m.remove(c, d), true);
            }
        }
    }

    private static void promise4LeastAndGreatestAllowed() {
        for (int c = 0; c < 2; c++) {
            for (int i = 0; i < 6; i++) {
                for (int name = 0; name < 4; name++) {
                    NetMatcher m = new NetMatcher();
                    due.is("4: net " + i + " name " + name, m.name(c, i, name), true);
                    due.is("4: the net is apart", m.symmetries(c), 120);
                    due.is("4: the other circuit's nets are not", m.symmetries(1 - c), 720);
                    for (int j = 0; j < 6; j++) {
                        due.is("4: it is net " + i, m.exchangeable(c, i, j), i == j);
                    }
                    m.name(1 - c, 2, name);
                    due.is("4: it is name " + name, m.match(), true);
                }
            }
        }
    }

    private static void promise4TakesAway() {
        for (int c = 0; c < 2; c++) {
            for (int i = 0; i < 6; i++) {
                for (int name = 0; name < 4; name++) {
                    NetMatcher m = new NetMatcher();
                    m.name(c, i, name);
                    m.name(c, (i + 1) % 6, name);
                    due.is("4: take away", m.name(c, i, NONE), true);
                    due.is("4: one name left", m.symmetries(c), 120);
                    due.is("4: take away again", m.name(c, i, NONE), true);
                    due.is("4: one name left still", m.symmetries(c), 120);
                    due.is("4: take the other away", m.name(c, (i + 1) % 6, NONE), true);
                    due.is("4: no name left", m.matches(), 720);
                }
            }
        }
    }

    private static void promise4BadCircuit() {
        NetMatcher m = Circuits.rigid();
        for (int c : Circuits.NO_CIRCUIT) {
            for (int i = 0; i < 6; i += 5) {
                for (int name = NONE; name < 4; name++) {
                    due.is("4: circuit " + c, m.name(c, i, name), false);
                    due.is("4: names as before, circuit " + c, m.matches(), 1);
                }
            }
        }
    }

    private static void promise4BadNet() {
        NetMatcher m = Circuits.rigid();
        for (int i : Circuits.NO_NET) {
            for (int c = 0; c < 2; c++) {
                for (int name = NONE; name < 4; name++) {
                    due.is("4: net " + i, m.name(c, i, name), false);
                    due.is("4: names as before, net " + i, m.matches(), 1);
                }
            }
        }
    }

    private static void promise4BadName() {
        NetMatcher m = Circuits.rigid();
        for (int name : Circuits.NO_NAME) {
            for (int c = 0; c < 2; c++) {
                for (int i = 0; i < 6; i++) {
                    due.is("4: name " + name, m.name(c, i, name), false);
                    due.is("4: names as before, name " + name, m.matches(), 1);
                }
            }
        }
    }

    private static void promise5LeastAndGreatest() {
        for (int c = 0; c < 2; c++) {
            NetMatcher m = new NetMatcher();
            due.is("5: no device", m.devices(c), 0);
            for (int d = 0; d < 7; d++) {
                m.add(c, 0, 0);
                due.is("5: devices up to " + d, m.devices(c), (2 << d) - 1);
                due.is("5: the other circuit's", m.devices(1 - c), 0);
            }
            m.add(c, 0, 0);
            due.is("5: after a refused eighth", m.devices(c), 127);
            for (int d = 0; d < 6; d++) {
                m.remove(c, d);
            }
            due.is("5: the last device alone", m.devices(c), 64);
        }
    }

    private static void promise5NoSuchCircuit() {
        NetMatcher m = Circuits.rigid();
        for (int c : Circuits.NO_CIRCUIT) {
            due.is("5: circuit " + c, m.devices(c), 0);
        }
    }

    private static void promise6BothEndsCountTwice() {
        for (int c = 0; c < 2; c++) {
            for (int i = 0; i < 6; i++) {
                int other = (i + 1) % 6;
                for (int type = 0; type < 3; type++) {
                    NetMatcher m = new NetMatcher();
                    m.add(c, type, nets(other, i, i));
                    due.is("6: both ends at " + i, m.degree(c, i), 2);
                    due.is("6: its gate", m.degree(c, other), type == 2 ? 0 : 1);
                    NetMatcher all = new NetMatcher();
                    all.add(c, type, nets(i, i, i));
                    due.is("6: gate and both ends at " + i, all.degree(c, i), type == 2 ? 2 : 3);
                    NetMatcher first = new NetMatcher();
                    first.add(c, type, nets(other, i, other));
                    due.is("6: the first end at " + i, first.degree(c, i), 1);
                    NetMatcher second = new NetMatcher();
                    second.add(c, type, nets(other, other, i));
                    due.is("6: the second end at " + i, second.degree(c, i), 1);
                }
            }
        }
    }

    private static void promise6GateOfType2DoesNotCount() {
        for (int c = 0; c < 2; c++) {
            for (int g = 0; g < 6; g++) {
                int end = (g + 3) % 6;
                for (int type = 0; type < 3; type++) {
                    NetMatcher m = new NetMatcher();
                    m.add(c, type, nets(g, end, end));
                    due.is("6: gate at " + g + " of type " + type, m.degree(c, g), type == 2 ? 0 : 1);
                    int gates = 0;
                    for (int i = 0; i < 6; i++) {
                        gates += i == end ? 0 : m.degree(c, i);
                    }
                    due.is("6: gates at any net", gates, type == 2 ? 0 : 1);
                }
            }
        }
    }

    private static void promise6LeastAndGreatest() {
        for (int c = 0; c < 2; c++) {
            for (int i = 0; i < 6; i++) {
                NetMatcher m = new NetMatcher();
                due.is("6: no device", m.degree(c, i), 0);
                for (int d = 0; d < 7; d++) {
                    m.add(c, d % 2, nets(i, i, i));
                }
                due.is("6: seven devices at one net", m.degree(c, i), 21);
                due.is("6: none at another", m.degree(c, (i + 1) % 6), 0);
                due.is("6: none in the other circuit", m.degree(1 - c, i), 0);
                m.remove(c, 6);
                due.is("6: without the last", m.degree(c, i), 18);
                m.remove(c, 0);
                due.is("6: without the first", m.degree(c, i), 15);
            }
        }
    }

    private static void promise6BadCircuit() {
        NetMatcher m = Circuits.rigid();
        for (int c : Circuits.NO_CIRCUIT) {
            due.is("6: circuit " + c, m.degree(c, 0), BAD);
            due.is("6: circuit " + c, m.degree(c, 5), BAD);
            for (int i : Circuits.NO_NET) {
                due.is("6: circuit " + c + " net " + i, m.degree(c, i), BAD);
            }
        }
    }

    private static void promise6BadNet() {
        NetMatcher m = Circuits.rigid();
        NetMatcher empty = new NetMatcher();
        for (int i : Circuits.NO_NET) {
            for (int c = 0; c < 2; c++) {
                due.is("6: net " + i, m.degree(c, i), BAD);
                due.is("6: net " + i + " without devices", empty.degree(c, i), BAD);
            }
        }
    }

    private static void promise7EmptyCircuits() {
        due.is("7: two empty circuits", new NetMatcher().match(), true);
        for (int c = 0; c < 2; c++) {
            for (int type = 0; type < 3; type++) {
                NetMatcher m = new NetMatcher();
                m.add(c, type, 0);
                due.is("7: a device against none", m.match(), false);
                m.remove(c, 0);
                due.is("7: empty again", m.match(), true);
            }
            due.is("7: seven devices against none", Circuits.withSeven(c).match(), false);
        }
    }

    private static void promise7FullCircuits() {
        due.is("7: two full circuits", Circuits.rigid().match(), true);
        for (int d = 0; d < 7; d++) {
            due.is("7: six against seven", rigidWithout(0, d).match(), false);
            due.is("7: seven against six", rigidWithout(1, d).match(), false);
        }
        NetMatcher alike = new NetMatcher();
        for (int d = 0; d < 7; d++) {
            alike.add(0, 1, nets(0, 0, 1));
            alike.add(1, 1, nets(5, 4, 5));
        }
        due.is("7: seven equal devices in each", alike.match(), true);
    }

    /** Each case is a match but for one thing. */
    private static void promise7NoMatch() {
        for (int c = 0; c < 2; c++) {
            for (int d = 0; d < 7; d++) {
                for (int type = 0; type < 3; type++) {
                    NetMatcher m = rigidWithout(c, d);
                    m.add(c, type, nets(0, 3, 0));
                    due.is("7: device " + d + " is another", m.match(), false);
                }
            }
            for (int i = 0; i < 6; i++) {
                for (int name = 1; name < 3; name++) {
                    NetMatcher m = Circuits.rigid();
                    m.name(c, i, name);
                    due.is("7: net " + i + " has another name", m.match(), false);
                }
            }
        }
    }

    private static void promise8LeastAndGreatest() {
        NetMatcher m = Circuits.rigid();
        for (int i = 0; i < 6; i++) {
            due.is("8: net " + i, m.assigned(i), (i + 1) % 6);
        }
    }

    private static void promise8NoMatch() {
        NetMatcher m = rigidWithout(1, 0);
        for (int i = 0; i < 6; i++) {
            NetMatcher had = Circuits.rigid();
            had.match();
            had.name(1, 3, 2);
            due.is("8: no match, net " + i, m.assigned(i), NONE);
            due.is("8: no match any more, net " + i, had.assigned(i), NONE);
        }
        for (int i : Circuits.NO_NET) {
            due.is("8: no match, net " + i, m.assigned(i), NONE);
        }
    }

    private static void promise8BadNet() {
        NetMatcher m = Circuits.rigid();
        NetMatcher empty = new NetMatcher();
        for (int i : Circuits.NO_NET) {
            due.is("8: net " + i, m.assigned(i), NONE);
            due.is("8: net " + i + " of empty circuits", empty.assigned(i), NONE);
        }
    }

    private static void promise9EmptyCircuits() {
        NetMatcher m = new NetMatcher();
        due.is("9: empty circuits, greatest number", m.matches(), 720);
        m.name(0, 0, 0);
        m.name(1, 5, 0);
        due.is("9: without devices, a named net", m.matches(), 120);
        for (int i = 1; i < 6; i++) {
            m.name(0, i, i % 4);
            m.name(1, 5 - i, i % 4);
        }
        due.is("9: without devices, all nets named, two names twice", m.matches(), 4);
    }

    private static void promise9FullCircuits() {
        due.is("9: full circuits, a single match", Circuits.rigid().matches(), 1);
        NetMatcher alike = new NetMatcher();
        for (int d = 0; d < 7; d++) {
            alike.add(0, 2, nets(d % 6, 0, 1));
            alike.add(1, 2, nets(0, 5, 4));
        }
        due.is("9: seven equal devices count once", alike.matches(), 48);
    }

    private static void promise9NoMatch() {
        due.is("9: six against seven", rigidWithout(0, 6).matches(), 0);
        due.is("9: seven against none", Circuits.withSeven(0).matches(), 0);
        due.is("9: none against seven", Circuits.withSeven(1).matches(), 0);
        NetMatcher m = new NetMatcher();
        m.name(1, 5, 3);
        due.is("9: a name against none", m.matches(), 0);
    }

    private static void promise10LeastAndGreatest() {
        NetMatcher empty = new NetMatcher();
        NetMatcher m = Circuits.rigid();
        for (int i = 0; i < 6; i++) {
            due.is("10: all nets for net " + i, empty.candidates(i), 63);
            due.is("10: one net for net " + i, m.candidates(i), 1 << (i + 1) % 6);
        }
    }

    private static void promise10NoMatch() {
        NetMatcher m = rigidWithout(0, 3);
        for (int i = 0; i < 6; i++) {
            NetMatcher had = Circuits.rigid();
            had.match();
            had.remove(1, 6);
            due.is("10: no match, net " + i, m.candidates(i), 0);
            due.is("10: no match any more, net " + i, had.candidates(i), 0);
        }
    }

    private static void promise10BadNet() {
        NetMatcher empty = new NetMatcher();
        NetMatcher m = Circuits.rigid();
        for (int i : Circuits.NO_NET) {
            due.is("10: net " + i + " of empty circuits", empty.candidates(i), 0);
            due.is("10: net " + i, m.candidates(i), 0);
        }
    }

    private static void promise11LeastAndGreatest() {
        for (int c = 0; c < 2; c++) {
            due.is("11: an empty circuit", new NetMatcher().symmetries(c), 720);
            due.is("11: a full circuit without symmetry", Circuits.rigid().symmetries(c), 1);
        }
    }

    private static void promise11AsIfBothWereTheCircuit() {
        for (int c = 0; c < 2; c++) {
            NetMatcher m = Circuits.withSeven(c);
            m.name(c, 1, 3);
            due.is("11: no match with the other circuit", m.match(), false);
            due.is("11: the other circuit", m.symmetries(1 - c), 720);
            // Gates and the name tell nets 0, 1, 3 and 4 apart; nets 2 and 5 are gates of type 2 only.
            due.is("11: the full circuit", m.symmetries(c), 2);
        }
    }

    private static void promise11BadCircuit() {
        NetMatcher m = Circuits.rigid();
        NetMatcher empty = new NetMatcher();
        for (int c : Circuits.NO_CIRCUIT) {
            due.is("11: circuit " + c, m.symmetries(c), BAD);
            due.is("11: circuit " + c + " beside empty ones", empty.symmetries(c), BAD);
        }
    }

    private static void promise12LeastAndGreatest() {
        NetMatcher empty = new NetMatcher();
        NetMatcher m = Circuits.rigid();
        for (int c = 0; c < 2; c++) {
            for (int i = 0; i < 6; i++) {
                for (int j = 0; j < 6; j++) {
                    due.is("12: in an empty circuit " + i + " " + j, empty.exchangeable(c, i, j), true);
                    due.is("12: without symmetry " + i + " " + j, m.exchangeable(c, i, j), i == j);
                }
            }
        }
    }

    private static void promise12BadCircuit() {
        NetMatcher m = new NetMatcher();
        for (int c : Circuits.NO_CIRCUIT) {
            due.is("12: circuit " + c, m.exchangeable(c, 0, 0), false);
            due.is("12: circuit " + c, m.exchangeable(c, 0, 5), false);
            due.is("12: circuit " + c, m.exchangeable(c, 5, 5), false);
            for (int i : Circuits.NO_NET) {
                due.is("12: circuit " + c + " net " + i, m.exchangeable(c, i, i), false);
            }
        }
    }

    private static void promise12BadNet() {
        for (int c = 0; c < 2; c++) {
            for (int bad : Circuits.NO_NET) {
                NetMatcher m = new NetMatcher();
                for (int good = 0; good < 6; good++) {
                    due.is("12: nets " + bad + " " + good, m.exchangeable(c, bad, good), false);
                    due.is("12: nets " + good + " " + bad, m.exchangeable(c, good, bad), false);
                }
                for (int other : Circuits.NO_NET) {
                    due.is("12: nets " + bad + " " + other, m.exchangeable(c, bad, other), false);
                }
            }
        }
    }

    private static void promise13LeastAndGreatest() {
        for (int d = 0; d < 7; d++) {
            due.is("13: device " + d + " is missing in 1", rigidWithout(1, d).surplus(), d);
        }
        NetMatcher one = new NetMatcher();
        one.add(0, 2, 365);
        due.is("13: the only device", one.surplus(), 0);
    }

    private static void promise13LeastOfSeveral() {
        for (int least = 0; least < 7; least++) {
            NetMatcher m = new NetMatcher();
            for (int d = 0; d < 7; d++) {
                m.add(0, d < least ? 0 : 2, nets(0, 0, 1));
            }
            for (int d = 0; d < 6; d++) {
                m.add(1, d < least ? 0 : 2, nets(5, 5, 4));
            }
            due.is("13: equal ones from " + least + " on", m.surplus(), least);
        }
        NetMatcher gaps = Circuits.withSeven(0);
        for (int d = 0; d < 5; d++) {
            gaps.remove(0, d);
        }
        gaps.add(1, 2, 0);
        due.is("13: no device that is not there", gaps.surplus(), 6);
    }

    private static void promise13TakenFromCircuit0Only() {
        for (int d = 0; d < 7; d++) {
            NetMatcher m = rigidWithout(1, d);
            m.add(1, 0, nets(3, 3, 3));
            due.is("13: device " + d + " would have to go from both", m.surplus(), NONE);
            due.is("13: device " + d + " would have to go from 1", rigidWithout(0, d).surplus(), NONE);
        }
        NetMatcher asked = rigidWithout(1, 4);
        asked.surplus();
        due.is("13: none is really taken", asked.devices(0), 127);
        due.is("13: none is really taken from 1", asked.devices(1), 127 & ~16);
        due.is("13: asked again", asked.surplus(), 4);
    }

    private static void promise13None() {
        due.is("13: no devices", new NetMatcher().surplus(), NONE);
        due.is("13: full circuits that match", Circuits.rigid().surplus(), NONE);
        due.is("13: none against seven", Circuits.withSeven(1).surplus(), NONE);
        due.is("13: seven against none", Circuits.withSeven(0).surplus(), NONE);
        NetMatcher two = rigidWithout(1, 0);
        two.remove(1, 6);
        due.is("13: two too many", two.surplus(), NONE);
        NetMatcher named = rigidWithout(1, 0);
        named.name(0, 3, 1);
        due.is("13: a name keeps them apart", named.surplus(), NONE);
        NetMatcher noDevices = new NetMatcher();
        noDevices.name(0, 0, 0);
        due.is("13: a name and no devices", noDevices.surplus(), NONE);
    }

    private static void promise14BadBeforeFull() {
        NetMatcher m = Circuits.rigid();
        for (int c = 0; c < 2; c++) {
            due.is("14: full", m.add(c, 0, 0), FULL);
            for (int type : Circuits.NO_TYPE) {
                due.is("14: full, type " + type, m.add(c, type, 0), BAD);
            }
            for (int type = 0; type < 3; type++) {
                for (int nets : new int[] {-1, 6, 7, 48, 56, 366, 384, 448, 512, Circuits.LEAST, Circuits.GREATEST}) {
                    due.is("14: full, nets " + nets, m.add(c, type, nets), BAD);
                }
            }
        }
        for (int c : Circuits.NO_CIRCUIT) {
            due.is("14: full, circuit " + c, m.add(c, 0, 0), BAD);
        }
    }

    private static void promise14NetsBelow0() {
        for (int type = 0; type < 3; type++) {
            NetMatcher m = new NetMatcher();
            for (int nets : new int[] {-1, -2, -8, -64, -365, -512, -512 + 365, -1024, Circuits.LEAST, Circuits.LEAST + 365}) {
                due.is("14: nets " + nets, m.add(0, type, nets), BAD);
                due.is("14: nets " + nets, m.add(1, type, nets), BAD);
            }
            due.is("14: nothing added", m.devices(0) + m.devices(1), 0);
            due.is("14: nets 0", m.add(0, type, 0), 0);
        }
    }

    private static void promise14GateOfType2Is0To5() {
        for (int c = 0; c < 2; c++) {
            for (int g = 0; g < 8; g++) {
                NetMatcher m = new NetMatcher();
                due.is("14: type 2, gate " + g, m.add(c, 2, nets(g, 0, 5)), g < 6 ? 0 : BAD);
                due.is("14: devices after gate " + g, m.devices(c), g < 6 ? 1 : 0);
            }
            NetMatcher m = new NetMatcher();
            due.is("14: type 2, gate -1", m.add(c, 2, -1), BAD);
        }
    }

    private static void promise14GateOfType2ShowsInNoAnswer() {
        long[] want = Circuits.answers(withGatesOfType2(0, 0));
        for (int g0 = 0; g0 < 6; g0++) {
            for (int g1 = 0; g1 < 6; g1++) {
                long[] got = Circuits.answers(withGatesOfType2(g0, g1));
                for (int k = 0; k < want.length; k++) {
                    due.is("14: gates " + g0 + " and " + g1 + ", question " + k, got[k], want[k]);
                }
            }
        }
        due.is("14: the circuits match", want[0], 1);
    }

    private static NetMatcher withGatesOfType2(int g0, int g1) {
        NetMatcher m = new NetMatcher();
        m.add(0, 2, nets(g0, 1, 2));
        m.add(0, 2, nets(5 - g0, 3, 3));
        m.add(0, 0, nets(4, 1, 3));
        m.add(1, 0, nets(4, 1, 3));
        m.add(1, 2, nets(g1, 3, 3));
        m.add(1, 2, nets(g1, 2, 1));
        return m;
    }
}
