/** Long mixed runs of calls: the program has to answer what the model of the document answers. */
public final class ModelTest {
    private static final int RUNS = 6000;
    private static final int MIXED_CALLS = 380;
    private static final int[] SPREADS = {0, 1, 2, 3, 7, 64, 1000, -1, Integer.MAX_VALUE, Integer.MIN_VALUE};
    private static final int[] FAR = {
        Integer.MIN_VALUE, Integer.MIN_VALUE + 1, -1000, -4, -3, -2, 2, 3, 4, 5, 6, 7, 1000, 1 << 30, Integer.MAX_VALUE};

    private final Checks checks;
    private final TransactionalMaps maps;
    private final MapsModel model = new MapsModel();
    private final int keyRange;
    private long seed;

    private ModelTest(Checks checks, int run) {
        this.checks = checks;
        this.maps = new TransactionalMaps(SPREADS[run % SPREADS.length]);
        // Few keys let maps meet; many keys fill them.
        this.keyRange = 3 + run % 17;
        this.seed = run * 7919L + 1;
    }

    // A sequence of numbers that is the same in every run of the test.
    private int next(int bound) {
        seed = seed * 6364136223846793005L + 1442695040888963407L;
        return (int) ((seed >>> 33) % bound);
    }

    private int number(int bound) {
        return next(40) == 0 ? FAR[next(FAR.length)] : next(bound);
    }

    private int key() {
        int number = next(keyRange);
        if (number == 0) {
            return Integer.MIN_VALUE;
        }
        return number == 1 ? Integer.MAX_VALUE : (number - keyRange / 2) * 3;
    }

    private int amount() {
        int number = next(12);
        if (number == 0) {
            return Integer.MAX_VALUE;
        }
        return number == 1 ? Integer.MIN_VALUE : number - 6;
    }

    private void mixedCall() {
        int kind = next(100);
        if (kind < 40) {
            variableCall(kind);
        } else if (kind < 82) {
            transactionCall(kind);
        } else {
            agentCall(kind);
        }
    }

    private void variableCall(int kind) {
        int a = number(4);
        int b = number(4);
        int c = number(4);
        int key = key();
        int amount = amount();
        if (kind < 14) {
            checks.due("put(" + a + ", " + key + ", " + amount + ")", model.put(a, key, amount), maps.put(a, key, amount));
        } else if (kind < 18) {
            checks.due("remove(" + a + ", " + key + ")", model.remove(a, key), maps.remove(a, key));
        } else if (kind < 25) {
            int way = number(5) - 1;
            checks.due("combine(" + way + ", " + a + ", " + b + ", " + c + ")",
                model.combine(way, a, b, c), maps.combine(way, a, b, c));
        } else if (kind < 29) {
            checks.due("get(" + a + ", " + key + ", " + amount + ")", model.get(a, key, amount), maps.get(a, key, amount));
        } else if (kind < 32) {
            checks.due("size(" + a + ")", model.size(a), maps.size(a));
        } else if (kind < 36) {
            int place = number(12) - 1;
            checks.due("keyAt(" + a + ", " + place + ")", model.keyAt(a, place), maps.keyAt(a, place));
        } else {
            checks.due("same(" + a + ", " + b + ")", model.same(a, b), maps.same(a, b));
        }
    }

    private void transactionCall(int kind) {
        int t = number(3);
        int ref = number(4);
        int variable = number(4);
        int key = key();
        int amount = amount();
        if (kind < 48) {
            checks.due("begin(" + t + ")", model.begin(t), maps.begin(t));
        } else if (kind < 54) {
            int from = next(2) == 0 ? -1 : t;
            int holder = next(2) == 0 ? next(6) : ref;
            checks.due("load(" + from + ", " + holder + ", " + variable + ")",
                model.load(from, holder, variable), maps.load(from, holder, variable));
        } else if (kind < 60) {
            checks.due("store(" + t + ", " + ref + ", " + variable + ")",
                model.store(t, ref, variable), maps.store(t, ref, variable));
        } else if (kind < 73) {
            checks.due("adjust(" + t + ", " + ref + ", " + key + ", " + amount + ")",
                model.adjust(t, ref, key, amount), maps.adjust(t, ref, key, amount));
        } else if (kind < 76) {
            checks.due("ensure(" + t + ", " + ref + ")", model.ensure(t, ref), maps.ensure(t, ref));
        } else {
            boolean commit = next(6) != 0;
            checks.due("finish(" + t + ", " + commit + ")", model.finish(t, commit), maps.finish(t, commit));
        }
    }

    private void agentCall(int kind) {
        int t = next(3) == 0 ? -1 : number(3);
        int agent = number(2);
        int key = key();
        int amount = amount();
        if (kind < 91) {
            checks.due("send(" + t + ", " + agent + ", " + key + ", " + amount + ")",
                model.send(t, agent, key, amount), maps.send(t, agent, key, amount));
        } else if (kind < 97) {
            checks.due("act(" + agent + ")", model.act(agent), maps.act(agent));
        } else {
            checks.due("waiting(" + agent + ")", model.waiting(agent), maps.waiting(agent));
        }
    }

    private void compareVariable(int variable) {
        int size = model.size(variable);
        checks.due("size(" + variable + ")", size, maps.size(variable));
        for (int place = 0; place < size; place++) {
            int key = model.keyAt(variable, place);
            checks.due("keyAt(" + variable + ", " + place + ")", key, maps.keyAt(variable, place));
            if (place % 2 == 0) {
                checks.due("get(" + variable + ", " + key + ", 9)", model.get(variable, key, 9), maps.get(variable, key, 9));
            }
        }
    }

    // At most 4 * 16 and 2 * 18 calls, so that an object stays below its 512.
    private void compareAtTheEnd() {
        for (int variable = 0; variable < 4; variable++) {
            compareVariable(variable);
        }
        for (int agent = 0; agent < 2; agent++) {
            checks.due("waiting(" + agent + ")", model.waiting(agent), maps.waiting(agent));
        }
        for (int i = 0; i < 2; i++) {
            int holder = next(6);
            checks.due("load(-1, " + holder + ", 0)", model.load(-1, holder, 0), maps.load(-1, holder, 0));
            compareVariable(0);
        }
    }

    // Past its 512th call the answers of an object are free, but no call may throw.
    private static void callWithAnything(Checks checks) {
        ModelTest numbers = new ModelTest(checks, 5);
        TransactionalMaps maps = numbers.maps;
        for (int i = 0; i < 200000; i++) {
            int a = numbers.number(7) - 1;
            int b = numbers.number(7) - 1;
            int c = numbers.number(7) - 1;
            int d = numbers.number(7) - 1;
            switch (numbers.next(16)) {
                case 0: maps.put(a, b, c); break;
                case 1: maps.remove(a, b); break;
                case 2: maps.combine(a, b, c, d); break;
                case 3: maps.get(a, b, c); break;
                case 4: maps.size(a); break;
                case 5: maps.keyAt(a, b); break;
                case 6: maps.same(a, b); break;
                case 7: maps.begin(a); break;
                case 8: maps.load(a, b, c); break;
                case 9: maps.store(a, b, c); break;
                case 10: maps.adjust(a, b, c, d); break;
                case 11: maps.ensure(a, b); break;
                case 12: maps.send(a, b, c, d); break;
                case 13: maps.finish(a, b != 0); break;
                case 14: maps.act(a); break;
                default: maps.waiting(a); break;
            }
        }
    }

    public static void main(String[] args) {
        Checks checks = new Checks();
        for (int run = 0; run < RUNS; run++) {
            checks.startPart("run " + run);
            ModelTest test = new ModelTest(checks, run);
            for (int call = 0; call < MIXED_CALLS; call++) {
                test.mixedCall();
            }
            test.compareAtTheEnd();
        }
        callWithAnything(checks);
        checks.end();
    }
}
