/** Each promise of the document by itself: ordinary inputs, the edges that it names, wrong inputs. */
public final class PromisesTest {
    private static final int REFUSED = -1;
    private static final int FULL = -2;
    private static final int CONFLICT = -3;
    private static final int MIN = Integer.MIN_VALUE;
    private static final int MAX = Integer.MAX_VALUE;
    private static final int[] NOT_BELOW_4 = {-1, 4, 5, MIN, MAX};
    private static final int[] NOT_BELOW_2 = {-1, 2, 3, MIN, MAX};
    // Without -1, which some calls take for no transaction.
    private static final int[] NEVER_OPEN = {-2, 3, 4, MIN, MAX};

    private final Checks checks = new Checks();
    private TransactionalMaps x;

    private void fresh(String part) {
        checks.startPart(part);
        x = new TransactionalMaps(0);
    }

    private void due(String call, long want, long got) {
        checks.due(call, want, got);
    }

    private void due(String call, boolean want, boolean got) {
        checks.due(call, want, got);
    }

    private String text(int variable) {
        StringBuilder text = new StringBuilder();
        for (int place = 0; place < x.size(variable); place++) {
            int key = x.keyAt(variable, place);
            text.append(place == 0 ? "" : " ").append(key).append(':').append(x.get(variable, key, -99));
        }
        return text.toString();
    }

    private void holds(int variable, String want) {
        checks.due("the map of variable " + variable, want, text(variable));
    }

    /** What a transaction sees of a ref, or (-1) what a ref or agent holds; variable 3 is used for it. */
    private void sees(int transaction, int ref, String want) {
        x.load(transaction, ref, 3);
        checks.due("the map of load(" + transaction + ", " + ref + ", 3)", want, text(3));
    }

    private void fill(int variable, int firstKey, int count) {
        for (int i = 0; i < count; i++) {
            x.put(variable, firstKey + i, i);
        }
    }

    private void setRef(int ref, int variable) {
        x.begin(2);
        x.store(2, ref, variable);
        due("finish(2, true) of the setting", 1, x.finish(2, true));
    }

    private void newObject() {
        checks.startPart("1 constants");
        due("REFUSED", REFUSED, TransactionalMaps.REFUSED);
        due("FULL", FULL, TransactionalMaps.FULL);
        due("CONFLICT", CONFLICT, TransactionalMaps.CONFLICT);
        for (int spread : new int[] {0, 1, 2, 16, 1 << 20, -1, -16, MIN, MAX}) {
            checks.startPart("1 a new object with spread " + spread);
            x = new TransactionalMaps(spread);
            for (int i = 0; i < 4; i++) {
                due("size(" + i + ")", 0, x.size(i));
            }
            for (int holder = 0; holder < 6; holder++) {
                due("load(-1, " + holder + ", 0)", 0, x.load(-1, holder, 0));
            }
            for (int t = 0; t < 3; t++) {
                due("finish(" + t + ", true)", REFUSED, x.finish(t, true));
            }
            for (int agent = 0; agent < 2; agent++) {
                due("waiting(" + agent + ")", 0, x.waiting(agent));
                due("act(" + agent + ")", 0, x.act(agent));
            }
            fill(0, -4, 10);
            due("put(0, 6, 6)", FULL, x.put(0, 6, 6));
            holds(0, "-4:0 -3:1 -2:2 -1:3 0:4 1:5 2:6 3:7 4:8 5:9");
        }
        fresh("1 two objects");
        TransactionalMaps other = new TransactionalMaps(0);
        x.put(0, 1, 1);
        due("size(0) of the other", 0, other.size(0));
    }

    private void putAndItsEdges() {
        fresh("2 put");
        due("put(0, 5, 50)", 1, x.put(0, 5, 50));
        due("put(0, -5, 51)", 2, x.put(0, -5, 51));
        due("put(0, 5, 52)", 2, x.put(0, 5, 52));
        holds(0, "-5:51 5:52");
        due("put(0, 0, 0)", 3, x.put(0, 0, 0));
        holds(0, "-5:51 0:0 5:52");
        holds(1, "");
        fresh("2 put the extremes");
        x.put(3, MAX, MIN);
        x.put(3, MIN, MAX);
        x.put(3, 0, -1);
        holds(3, MIN + ":" + MAX + " 0:-1 " + MAX + ":" + MIN);
        fresh("2 put full");
        fill(1, 0, 9);
        due("put(1, 9, 9)", 10, x.put(1, 9, 9));
        due("put(1, 10, 0)", FULL, x.put(1, 10, 0));
        due("put(1, -1, 0)", FULL, x.put(1, -1, 0));
        holds(1, "0:0 1:1 2:2 3:3 4:4 5:5 6:6 7:7 8:8 9:9");
        due("put(1, 4, 44)", 10, x.put(1, 4, 44));
        due("get(1, 4, 0)", 44, x.get(1, 4, 0));
        due("remove(1, 0)", 1, x.remove(1, 0));
        due("put(1, 10, 7)", 10, x.put(1, 10, 7));
        holds(0, "");
        holds(2, "");
        for (int wrong : NOT_BELOW_4) {
            due("put(" + wrong + ", 1, 1)", REFUSED, x.put(wrong, 1, 1));
        }
    }

    private void removeAndItsEdges() {
        fresh("3 remove");
        fill(0, 0, 10);
        fill(1, 0, 2);
        due("remove(0, 0)", 1, x.remove(0, 0));
        due("remove(0, 9)", 1, x.remove(0, 9));
        due("remove(0, 5)", 1, x.remove(0, 5));
        due("remove(0, 5)", 0, x.remove(0, 5));
        due("remove(0, 10)", 0, x.remove(0, 10));
        holds(0, "1:1 2:2 3:3 4:4 6:6 7:7 8:8");
        holds(1, "0:0 1:1");
        due("remove(1, 0)", 1, x.remove(1, 0));
        due("remove(1, 1)", 1, x.remove(1, 1));
        due("remove(1, 1)", 0, x.remove(1, 1));
        due("remove(2, 0)", 0, x.remove(2, 0));
        holds(1, "");
        for (int wrong : NOT_BELOW_4) {
            due("remove(" + wrong + ", 1)", REFUSED, x.remove(wrong, 1));
        }
    }

    private void combineKinds() {
        fresh("4 combine");
        x.put(0, 1, 10);
        x.put(0, 2, 20);
        x.put(1, 2, 200);
        x.put(1, 3, 300);
        due("combine(0, 0, 1, 2)", 2, x.combine(0, 0, 1, 2));
        holds(2, "1:10 2:20");
        due("combine(1, 0, 1, 2)", 3, x.combine(1, 0, 1, 2));
        holds(2, "1:10 2:200 3:300");
        due("combine(1, 1, 0, 2)", 3, x.combine(1, 1, 0, 2));
        holds(2, "1:10 2:20 3:300");
        due("combine(2, 0, 1, 2)", 1, x.combine(2, 0, 1, 2));
        holds(2, "1:10");
        due("combine(2, 1, 0, 2)", 1, x.combine(2, 1, 0, 2));
        holds(2, "3:300");
        due("combine(3, 0, 1, 2)", 1, x.combine(3, 0, 1, 2));
        holds(2, "2:20");
        due("combine(3, 1, 0, 2)", 1, x.combine(3, 1, 0, 2));
        holds(2, "2:200");
        due("combine(2, 0, 0, 2)", 0, x.combine(2, 0, 0, 2));
        holds(2, "");
        holds(0, "1:10 2:20");
        holds(1, "2:200 3:300");
    }

    private void combineIntoAnOperand() {
        String[] want = {"1:10 2:20", "1:10 2:200 3:300", "1:10", "2:20"};
        for (int kind = 0; kind < 4; kind++) {
            for (int to = 0; to < 2; to++) {
                fresh("4 combine kind " + kind + " into operand " + to);
                x.put(0, 1, 10);
                x.put(0, 2, 20);
                x.put(1, 2, 200);
                x.put(1, 3, 300);
                x.combine(kind, 0, 1, to);
                holds(to, want[kind]);
                holds(1 - to, to == 0 ? "2:200 3:300" : "1:10 2:20");
            }
        }
    }

    private void combineFullAndRefused() {
        fresh("4 combine full");
        fill(0, 0, 10);
        fill(1, 8, 3);
        x.put(2, 77, 7);
        due("combine(1, 0, 1, 2)", FULL, x.combine(1, 0, 1, 2));
        due("combine(1, 1, 0, 2)", FULL, x.combine(1, 1, 0, 2));
        holds(2, "77:7");
        due("combine(1, 0, 1, 1)", FULL, x.combine(1, 0, 1, 1));
        holds(1, "8:0 9:1 10:2");
        x.remove(1, 10);
        due("combine(1, 0, 1, 2)", 10, x.combine(1, 0, 1, 2));
        holds(2, "0:0 1:1 2:2 3:3 4:4 5:5 6:6 7:7 8:0 9:1");
        fresh("4 combine refused");
        x.put(0, 1, 1);
        x.put(1, 2, 2);
        for (int kind : new int[] {-1, 4, 5, MIN, MAX}) {
            due("combine(" + kind + ", 0, 1, 2)", REFUSED, x.combine(kind, 0, 1, 2));
        }
        for (int wrong : NOT_BELOW_4) {
            for (int kind = 0; kind < 4; kind++) {
                due("combine(" + kind + ", " + wrong + ", 1, 2)", REFUSED, x.combine(kind, wrong, 1, 2));
                due("combine(" + kind + ", 0, " + wrong + ", 2)", REFUSED, x.combine(kind, 0, wrong, 2));
                due("combine(" + kind + ", 0, 1, " + wrong + ")", REFUSED, x.combine(kind, 0, 1, wrong));
            }
        }
        holds(2, "");
    }

    private void readersOfVariables() {
        fresh("5 get");
        x.put(0, 5, 50);
        x.put(0, 7, 0);
        due("get(0, 5, 9)", 50, x.get(0, 5, 9));
        due("get(0, 7, 9)", 0, x.get(0, 7, 9));
        due("get(0, 6, 9)", 9, x.get(0, 6, 9));
        due("get(0, 8, -1)", -1, x.get(0, 8, -1));
        due("get(1, 5, 3)", 3, x.get(1, 5, 3));
        x.remove(0, 7);
        due("get(0, 7, 9)", 9, x.get(0, 7, 9));
        for (int wrong : NOT_BELOW_4) {
            due("get(" + wrong + ", 5, 33)", 33, x.get(wrong, 5, 33));
        }
        fresh("6 size");
        for (int i = 0; i < 10; i++) {
            due("size(2)", i, x.size(2));
            x.put(2, -i, i);
        }
        due("size(2)", 10, x.size(2));
        due("size(3)", 0, x.size(3));
        for (int wrong : NOT_BELOW_4) {
            due("size(" + wrong + ")", REFUSED, x.size(wrong));
        }
        fresh("7 keyAt");
        int[] keys = {3, MIN, 0, MAX, -8};
        int[] ordered = {MIN, -8, 0, 3, MAX};
        for (int key : keys) {
            x.put(1, key, 1);
        }
        for (int place = 0; place < 5; place++) {
            due("keyAt(1, " + place + ")", ordered[place], x.keyAt(1, place));
        }
        x.remove(1, MAX);
        for (int place : new int[] {-1, 4, 5, 9, 10, 11, MIN, MAX}) {
            due("keyAt(1, " + place + ")", 0, x.keyAt(1, place));
        }
        due("keyAt(0, 0)", 0, x.keyAt(0, 0));
        for (int wrong : NOT_BELOW_4) {
            due("keyAt(" + wrong + ", 0)", 0, x.keyAt(wrong, 0));
        }
    }

    private void sameMaps() {
        fresh("8 same");
        due("same(0, 1)", true, x.same(0, 1));
        x.put(0, 1, 10);
        due("same(0, 1)", false, x.same(0, 1));
        due("same(1, 0)", false, x.same(1, 0));
        due("same(0, 0)", true, x.same(0, 0));
        x.put(1, 1, 11);
        due("same(0, 1)", false, x.same(0, 1));
        x.put(1, 1, 10);
        due("same(0, 1)", true, x.same(0, 1));
        x.put(0, 2, 5);
        x.put(1, 3, 5);
        due("same(0, 1)", false, x.same(0, 1));
        x.put(0, 3, 5);
        x.put(1, 2, 5);
        due("same(0, 1)", true, x.same(0, 1));
        x.put(1, 3, 6);
        due("same(0, 1)", false, x.same(0, 1));
        fresh("8 same after removing");
        x.put(0, 1, 10);
        x.put(0, 2, 20);
        x.put(1, 1, 10);
        x.remove(0, 2);
        due("same(0, 1)", true, x.same(0, 1));
        fresh("8 same with 10 entries");
        fill(0, 0, 10);
        fill(1, 0, 10);
        due("same(0, 1)", true, x.same(0, 1));
        x.put(1, 9, -9);
        due("same(0, 1)", false, x.same(0, 1));
        for (int wrong : NOT_BELOW_4) {
            due("same(" + wrong + ", 0)", false, x.same(wrong, 0));
            due("same(0, " + wrong + ")", false, x.same(0, wrong));
            due("same(" + wrong + ", " + wrong + ")", false, x.same(wrong, wrong));
        }
    }

    private void beginOpens() {
        fresh("9 begin");
        for (int t = 0; t < 3; t++) {
            due("begin(" + t + ")", true, x.begin(t));
            due("begin(" + t + ")", false, x.begin(t));
        }
        for (int wrong : NEVER_OPEN) {
            due("begin(" + wrong + ")", false, x.begin(wrong));
        }
        due("begin(-1)", false, x.begin(-1));
        due("finish(1, false)", 0, x.finish(1, false));
        due("begin(1)", true, x.begin(1));
        due("begin(1)", false, x.begin(1));
        fresh("9 begin twice keeps what the transaction has");
        x.begin(0);
        x.adjust(0, 0, 1, 1);
        x.send(0, 0, 1, 1);
        due("begin(0)", false, x.begin(0));
        sees(0, 0, "1:1");
        due("send(0, 0, 1, 1)", 2, x.send(0, 0, 1, 1));
    }

    private void beginTakesASnapshot() {
        fresh("9 the snapshot");
        x.put(0, 1, 10);
        setRef(0, 0);
        x.begin(0);
        x.put(0, 1, 11);
        sees(0, 0, "1:10");
        for (int ref = 0; ref < 4; ref++) {
            setRef(ref, 0);
        }
        sees(0, 0, "1:10");
        sees(0, 1, "");
        sees(0, 3, "");
        x.begin(1);
        sees(1, 0, "1:11");
        sees(1, 3, "1:11");
        sees(-1, 0, "1:11");
        fresh("9 a begun transaction has nothing of an earlier one of its number");
        x.begin(0);
        x.put(0, 1, 10);
        x.store(0, 0, 0);
        x.adjust(0, 1, 1, 1);
        x.ensure(0, 2);
        for (int i = 0; i < 7; i++) {
            x.adjust(0, 1, 1, 1);
        }
        for (int i = 0; i < 6; i++) {
            x.send(0, 0, 1, 1);
        }
        setRef(2, 0);
        due("finish(0, true)", CONFLICT, x.finish(0, true));
        x.begin(0);
        sees(0, 0, "");
        sees(0, 1, "");
        setRef(2, 0);
        due("send(0, 1, 1, 1)", 1, x.send(0, 1, 1, 1));
        for (int i = 0; i < 8; i++) {
            due("adjust(0, 3, 1, 1)", 1, x.adjust(0, 3, 1, 1));
        }
        due("finish(0, true)", 1, x.finish(0, true));
        sees(-1, 0, "");
        sees(-1, 1, "");
        sees(-1, 3, "1:8");
        due("waiting(0)", 0, x.waiting(0));
    }

    private void loadReads() {
        fresh("10 load");
        x.put(0, 1, 10);
        x.put(0, 2, 20);
        setRef(1, 0);
        x.begin(0);
        x.put(1, 9, 9);
        due("load(0, 1, 1)", 2, x.load(0, 1, 1));
        holds(1, "1:10 2:20");
        x.put(1, 3, 30);
        sees(0, 1, "1:10 2:20");
        sees(-1, 1, "1:10 2:20");
        due("store(0, 1, 1)", 3, x.store(0, 1, 1));
        due("load(0, 1, 2)", 3, x.load(0, 1, 2));
        holds(2, "1:10 2:20 3:30");
        due("load(-1, 1, 2)", 2, x.load(-1, 1, 2));
        holds(2, "1:10 2:20");
        due("load(0, 0, 2)", 0, x.load(0, 0, 2));
        holds(2, "");
        fresh("10 load of agents");
        x.send(-1, 0, 1, 5);
        x.send(-1, 1, 2, 6);
        x.send(-1, 1, 3, 7);
        x.act(0);
        x.act(1);
        x.act(1);
        due("load(-1, 4, 0)", 1, x.load(-1, 4, 0));
        holds(0, "1:5");
        due("load(-1, 5, 0)", 2, x.load(-1, 5, 0));
        holds(0, "2:6 3:7");
        x.put(0, 4, 8);
        sees(-1, 5, "2:6 3:7");
        fresh("10 load refused");
        x.put(0, 1, 1);
        x.begin(0);
        due("load(0, 4, 0)", REFUSED, x.load(0, 4, 0));
        due("load(0, 5, 0)", REFUSED, x.load(0, 5, 0));
        for (int wrong : NOT_BELOW_4) {
            due("load(0, " + wrong + ", 0)", REFUSED, x.load(0, wrong, 0));
            due("load(0, 0, " + wrong + ")", REFUSED, x.load(0, 0, wrong));
            due("load(-1, 0, " + wrong + ")", REFUSED, x.load(-1, 0, wrong));
        }
        for (int wrong : new int[] {-1, 6, 7, MIN, MAX}) {
            due("load(-1, " + wrong + ", 0)", REFUSED, x.load(-1, wrong, 0));
        }
        for (int wrong : NEVER_OPEN) {
            due("load(" + wrong + ", 0, 0)", REFUSED, x.load(wrong, 0, 0));
        }
        due("load(1, 0, 0)", REFUSED, x.load(1, 0, 0));
        holds(0, "1:1");
    }

    private void storeWrites() {
        fresh("11 store");
        x.put(0, 1, 10);
        x.put(1, 2, 20);
        x.put(1, 3, 30);
        x.begin(0);
        x.begin(1);
        due("store(0, 0, 0)", 1, x.store(0, 0, 0));
        x.put(0, 7, 70);
        sees(0, 0, "1:10");
        sees(1, 0, "");
        sees(-1, 0, "");
        due("store(0, 0, 1)", 2, x.store(0, 0, 1));
        sees(0, 0, "2:20 3:30");
        due("store(0, 0, 2)", 0, x.store(0, 0, 2));
        sees(0, 0, "");
        fresh("11 store on a commuted ref");
        x.put(0, 1, 10);
        x.begin(0);
        x.adjust(0, 2, 5, 5);
        due("store(0, 2, 0)", REFUSED, x.store(0, 2, 0));
        sees(0, 2, "5:5");
        due("store(0, 1, 0)", 1, x.store(0, 1, 0));
        due("finish(0, true)", 1, x.finish(0, true));
        sees(-1, 2, "5:5");
        sees(-1, 1, "1:10");
        fresh("11 store refused");
        x.begin(0);
        for (int wrong : NOT_BELOW_4) {
            due("store(0, " + wrong + ", 0)", REFUSED, x.store(0, wrong, 0));
            due("store(0, 0, " + wrong + ")", REFUSED, x.store(0, 0, wrong));
        }
        for (int wrong : NEVER_OPEN) {
            due("store(" + wrong + ", 0, 0)", REFUSED, x.store(wrong, 0, 0));
        }
        due("store(-1, 0, 0)", REFUSED, x.store(-1, 0, 0));
        due("store(1, 0, 0)", REFUSED, x.store(1, 0, 0));
        due("adjust(0, 0, 1, 1), still UNTOUCHED", 1, x.adjust(0, 0, 1, 1));
        due("store(0, 0, 0), now COMMUTED", REFUSED, x.store(0, 0, 0));
    }

    private void adjustOrdinarily() {
        fresh("12 adjust");
        x.put(0, 1, 10);
        setRef(0, 0);
        x.begin(0);
        due("adjust(0, 0, 1, 5)", 1, x.adjust(0, 0, 1, 5));
        due("adjust(0, 0, 2, 0)", 2, x.adjust(0, 0, 2, 0));
        due("adjust(0, 0, 1, -15)", 2, x.adjust(0, 0, 1, -15));
        due("adjust(0, 0, -3, -7)", 3, x.adjust(0, 0, -3, -7));
        sees(0, 0, "-3:-7 1:0 2:0");
        sees(-1, 0, "1:10");
        due("finish(0, true)", 1, x.finish(0, true));
        sees(-1, 0, "-3:-7 1:0 2:0");
        fresh("12 adjust wraps");
        x.begin(0);
        x.adjust(0, 0, 1, MAX);
        due("adjust(0, 0, 1, 1)", 1, x.adjust(0, 0, 1, 1));
        sees(0, 0, "1:" + MIN);
        x.adjust(0, 0, 1, -1);
        sees(0, 0, "1:" + MAX);
    }

    private void adjustWrittenRefs() {
        fresh("12 adjust of a written ref is not recorded");
        x.put(0, 1, 10);
        x.begin(0);
        x.store(0, 0, 0);
        for (int i = 0; i < 12; i++) {
            due("adjust(0, 0, 1, 1)", 1, x.adjust(0, 0, 1, 1));
        }
        holds(0, "1:10");
        for (int i = 0; i < 8; i++) {
            due("adjust(0, 1, 1, 1)", 1, x.adjust(0, 1, 1, 1));
        }
        due("adjust(0, 2, 1, 1)", FULL, x.adjust(0, 2, 1, 1));
        due("adjust(0, 0, 2, 1), with 8 recorded", 2, x.adjust(0, 0, 2, 1));
        due("store(0, 0, 0), still WRITTEN", 1, x.store(0, 0, 0));
        x.adjust(0, 0, 4, 4);
        due("finish(0, true)", 1, x.finish(0, true));
        sees(-1, 0, "1:10 4:4");
        sees(-1, 1, "1:8");
        fresh("12 adjust of a full written ref");
        fill(0, 0, 10);
        x.begin(0);
        x.store(0, 3, 0);
        due("adjust(0, 3, 10, 1)", FULL, x.adjust(0, 3, 10, 1));
        due("adjust(0, 3, 9, 1)", 10, x.adjust(0, 3, 9, 1));
        sees(0, 3, "0:0 1:1 2:2 3:3 4:4 5:5 6:6 7:7 8:8 9:10");
    }

    private void adjustFullAndRefused() {
        fresh("12 adjust with 8 recorded");
        x.begin(0);
        x.begin(1);
        for (int i = 0; i < 8; i++) {
            x.adjust(0, i % 4, 1, 1);
        }
        due("adjust(0, 0, 1, 1)", FULL, x.adjust(0, 0, 1, 1));
        sees(0, 0, "1:2");
        due("adjust(1, 0, 1, 1)", 1, x.adjust(1, 0, 1, 1));
        due("finish(0, true)", 1, x.finish(0, true));
        sees(-1, 0, "1:2");
        fresh("12 adjust of a full seen map");
        fill(0, 0, 10);
        setRef(0, 0);
        x.begin(0);
        due("adjust(0, 0, 10, 1)", FULL, x.adjust(0, 0, 10, 1));
        due("store(0, 0, 1), still UNTOUCHED", 0, x.store(0, 0, 1));
        x.finish(0, false);
        x.begin(0);
        for (int i = 0; i < 9; i++) {
            x.adjust(0, 0, 10, 1);
        }
        for (int i = 0; i < 8; i++) {
            due("adjust(0, 0, 3, 1), none of the impossible is recorded", 10, x.adjust(0, 0, 3, 1));
        }
        due("adjust(0, 0, 3, 1)", FULL, x.adjust(0, 0, 3, 1));
        sees(0, 0, "0:0 1:1 2:2 3:11 4:4 5:5 6:6 7:7 8:8 9:9");
        fresh("12 adjust refused");
        x.begin(0);
        for (int wrong : NOT_BELOW_4) {
            due("adjust(0, " + wrong + ", 1, 1)", REFUSED, x.adjust(0, wrong, 1, 1));
        }
        for (int wrong : NEVER_OPEN) {
            due("adjust(" + wrong + ", 0, 1, 1)", REFUSED, x.adjust(wrong, 0, 1, 1));
        }
        due("adjust(-1, 0, 1, 1)", REFUSED, x.adjust(-1, 0, 1, 1));
        due("adjust(1, 0, 1, 1)", REFUSED, x.adjust(1, 0, 1, 1));
        sees(0, 0, "");
        sees(-1, 0, "");
    }

    private void ensureRefs() {
        fresh("13 ensure");
        x.begin(0);
        due("ensure(0, 3)", 1, x.ensure(0, 3));
        due("ensure(0, 3)", 1, x.ensure(0, 3));
        due("store(0, 3, 0), still UNTOUCHED", 0, x.store(0, 3, 0));
        due("finish(0, true)", 1, x.finish(0, true));
        for (int ref = 0; ref < 4; ref++) {
            for (int other = 0; other < 4; other++) {
                fresh("13 ref " + ref + " ensured, ref " + other + " changed");
                x.begin(0);
                x.ensure(0, ref);
                setRef(other, 0);
                due("finish(0, true)", ref == other ? CONFLICT : 1, x.finish(0, true));
            }
        }
        fresh("13 an ensured ref is not changed for others");
        x.begin(0);
        x.begin(1);
        x.ensure(0, 0);
        x.ensure(1, 0);
        due("finish(0, true)", 1, x.finish(0, true));
        due("finish(1, true)", 1, x.finish(1, true));
        fresh("13 an ensured and commuted ref");
        x.begin(0);
        x.adjust(0, 0, 1, 1);
        x.ensure(0, 0);
        setRef(0, 0);
        due("finish(0, true)", CONFLICT, x.finish(0, true));
        sees(-1, 0, "");
        fresh("13 ensure refused");
        x.begin(0);
        for (int wrong : NOT_BELOW_4) {
            due("ensure(0, " + wrong + ")", REFUSED, x.ensure(0, wrong));
        }
        for (int wrong : NEVER_OPEN) {
            due("ensure(" + wrong + ", 0)", REFUSED, x.ensure(wrong, 0));
        }
        due("ensure(-1, 0)", REFUSED, x.ensure(-1, 0));
        due("ensure(1, 0)", REFUSED, x.ensure(1, 0));
    }

    private void sendAtOnceAndLater() {
        fresh("14 send at once");
        for (int i = 1; i <= 8; i++) {
            due("send(-1, 0, 1, 1)", i, x.send(-1, 0, 1, 1));
        }
        due("send(-1, 0, 1, 100)", FULL, x.send(-1, 0, 1, 100));
        due("waiting(0)", 8, x.waiting(0));
        due("send(-1, 1, 1, 1)", 1, x.send(-1, 1, 1, 1));
        for (int i = 0; i < 8; i++) {
            x.act(0);
        }
        sees(-1, 4, "1:8");
        fresh("14 send in a transaction");
        x.begin(0);
        x.begin(1);
        for (int i = 1; i <= 6; i++) {
            due("send(0, " + i % 2 + ", 1, 1)", i, x.send(0, i % 2, 1, 1));
        }
        due("send(0, 0, 1, 100)", FULL, x.send(0, 0, 1, 100));
        due("send(0, 1, 1, 100)", FULL, x.send(0, 1, 1, 100));
        due("send(1, 1, 1, 1)", 1, x.send(1, 1, 1, 1));
        due("waiting(0)", 0, x.waiting(0));
        due("finish(0, true)", 1, x.finish(0, true));
        due("waiting(0)", 3, x.waiting(0));
        due("waiting(1)", 3, x.waiting(1));
        fresh("14 send refused");
        x.begin(0);
        for (int wrong : NOT_BELOW_2) {
            due("send(-1, " + wrong + ", 1, 1)", REFUSED, x.send(-1, wrong, 1, 1));
            due("send(0, " + wrong + ", 1, 1)", REFUSED, x.send(0, wrong, 1, 1));
        }
        for (int wrong : NEVER_OPEN) {
            due("send(" + wrong + ", 0, 1, 1)", REFUSED, x.send(wrong, 0, 1, 1));
        }
        due("send(1, 0, 1, 1)", REFUSED, x.send(1, 0, 1, 1));
        due("send(0, 0, 1, 1)", 1, x.send(0, 0, 1, 1));
        due("waiting(0)", 0, x.waiting(0));
    }

    private void finishEnds() {
        fresh("15 finish without commit");
        x.put(0, 1, 10);
        x.begin(0);
        x.begin(1);
        x.store(0, 0, 0);
        x.adjust(0, 1, 1, 1);
        x.send(0, 0, 1, 1);
        x.store(1, 0, 0);
        due("finish(0, false)", 0, x.finish(0, false));
        due("finish(0, false)", REFUSED, x.finish(0, false));
        due("finish(0, true)", REFUSED, x.finish(0, true));
        sees(-1, 0, "");
        sees(-1, 1, "");
        due("waiting(0)", 0, x.waiting(0));
        due("finish(1, true), as nothing is CHANGED for it", 1, x.finish(1, true));
        fresh("15 finish of a conflict without commit");
        x.begin(0);
        x.store(0, 0, 0);
        setRef(0, 0);
        due("finish(0, false)", 0, x.finish(0, false));
        fresh("15 finish with commit");
        x.put(0, 1, 10);
        x.put(1, 2, 20);
        x.begin(0);
        x.store(0, 0, 0);
        x.store(0, 3, 1);
        x.adjust(0, 1, 5, 5);
        due("finish(0, true)", 1, x.finish(0, true));
        due("finish(0, true)", REFUSED, x.finish(0, true));
        sees(-1, 0, "1:10");
        sees(-1, 1, "5:5");
        sees(-1, 2, "");
        sees(-1, 3, "2:20");
        due("begin(0)", true, x.begin(0));
        for (int wrong : NEVER_OPEN) {
            due("finish(" + wrong + ", true)", REFUSED, x.finish(wrong, true));
            due("finish(" + wrong + ", false)", REFUSED, x.finish(wrong, false));
        }
        due("finish(-1, true)", REFUSED, x.finish(-1, true));
        due("finish(1, true)", REFUSED, x.finish(1, true));
        due("finish(0, true) of a transaction that did nothing", 1, x.finish(0, true));
    }

    private void finishWithConflicts() {
        fresh("15 a written ref that another wrote");
        x.put(0, 1, 10);
        x.put(1, 2, 20);
        x.begin(0);
        x.begin(1);
        x.store(0, 0, 0);
        x.store(1, 0, 1);
        x.store(1, 1, 1);
        x.send(1, 0, 1, 1);
        due("finish(0, true)", 1, x.finish(0, true));
        due("finish(1, true)", CONFLICT, x.finish(1, true));
        sees(-1, 0, "1:10");
        sees(-1, 1, "");
        due("waiting(0)", 0, x.waiting(0));
        due("finish(1, true)", REFUSED, x.finish(1, true));
        due("begin(1)", true, x.begin(1));
        x.store(1, 0, 1);
        due("finish(1, true)", 1, x.finish(1, true));
        fresh("15 a change that leaves the map as it was");
        x.begin(0);
        x.store(0, 0, 0);
        setRef(0, 0);
        due("finish(0, true)", CONFLICT, x.finish(0, true));
        fresh("15 a commuted ref is changed for others");
        x.begin(0);
        x.begin(1);
        x.store(0, 2, 0);
        x.adjust(1, 2, 1, 0);
        due("finish(1, true)", 1, x.finish(1, true));
        due("finish(0, true)", CONFLICT, x.finish(0, true));
        sees(-1, 2, "1:0");
        fresh("15 changes before the beginning do not count");
        setRef(0, 0);
        x.begin(0);
        x.store(0, 0, 0);
        due("finish(0, true)", 1, x.finish(0, true));
        fresh("15 finishes without success change nothing for others");
        x.begin(0);
        x.store(0, 0, 0);
        x.begin(1);
        x.store(1, 0, 0);
        x.store(1, 1, 0);
        setRef(1, 0);
        due("finish(1, true)", CONFLICT, x.finish(1, true));
        due("finish(0, true)", 1, x.finish(0, true));
        fresh("15 an untouched ref that is changed");
        x.begin(0);
        x.load(0, 0, 0);
        setRef(0, 0);
        x.store(0, 1, 0);
        due("finish(0, true)", 1, x.finish(0, true));
    }

    private void finishAdjustsAnew() {
        fresh("15 commuted refs meet");
        x.put(0, 1, 10);
        x.put(0, 2, 20);
        x.begin(0);
        x.adjust(0, 0, 1, 1);
        x.adjust(0, 1, 1, 7);
        x.adjust(0, 0, 3, 3);
        x.adjust(0, 0, 1, 1);
        setRef(0, 0);
        sees(0, 0, "1:2 3:3");
        due("finish(0, true)", 1, x.finish(0, true));
        sees(-1, 0, "1:12 2:20 3:3");
        sees(-1, 1, "1:7");
        fresh("15 the adjusting anew is impossible");
        fill(0, 0, 9);
        x.put(1, 5, 5);
        x.begin(0);
        x.store(0, 1, 1);
        x.adjust(0, 2, 1, 1);
        x.adjust(0, 0, 20, 1);
        x.adjust(0, 0, 21, 1);
        x.send(0, 0, 1, 1);
        x.begin(1);
        x.store(1, 1, 1);
        x.store(1, 2, 1);
        setRef(0, 0);
        due("finish(0, true)", FULL, x.finish(0, true));
        due("finish(0, true)", REFUSED, x.finish(0, true));
        sees(-1, 0, "0:0 1:1 2:2 3:3 4:4 5:5 6:6 7:7 8:8");
        sees(-1, 1, "");
        sees(-1, 2, "");
        due("waiting(0)", 0, x.waiting(0));
        due("finish(1, true), as nothing is CHANGED for it", 1, x.finish(1, true));
        fresh("15 the adjusting anew just fits");
        fill(0, 0, 9);
        x.begin(0);
        x.adjust(0, 0, 20, 1);
        x.adjust(0, 0, 8, 1);
        setRef(0, 0);
        due("finish(0, true)", 1, x.finish(0, true));
        sees(-1, 0, "0:0 1:1 2:2 3:3 4:4 5:5 6:6 7:7 8:9 20:1");
        fresh("15 a conflict comes before the impossible");
        fill(0, 0, 10);
        x.begin(0);
        x.adjust(0, 0, 20, 1);
        x.ensure(0, 1);
        for (int i = 0; i < 6; i++) {
            x.send(0, 0, 1, 1);
        }
        for (int i = 0; i < 3; i++) {
            x.send(-1, 0, 1, 1);
        }
        setRef(0, 0);
        setRef(1, 0);
        due("finish(0, true)", CONFLICT, x.finish(0, true));
    }

    private void finishSends() {
        for (int agent = 0; agent < 2; agent++) {
            for (int before = 2; before < 4; before++) {
                fresh("15 six sends to agent " + agent + " behind " + before);
                x.put(0, 1, 1);
                x.begin(0);
                x.store(0, 0, 0);
                x.adjust(0, 1, 1, 1);
                for (int i = 0; i < 6; i++) {
                    x.send(0, agent, i, 1);
                }
                for (int i = 0; i < before; i++) {
                    x.send(-1, agent, 9, 1);
                }
                boolean fits = before == 2;
                due("finish(0, true)", fits ? 1 : FULL, x.finish(0, true));
                due("waiting(" + agent + ")", fits ? 8 : before, x.waiting(agent));
                due("waiting(" + (1 - agent) + ")", 0, x.waiting(1 - agent));
                sees(-1, 0, fits ? "1:1" : "");
                sees(-1, 1, fits ? "1:1" : "");
                due("begin(0)", true, x.begin(0));
            }
        }
        fresh("15 sends join in their order");
        x.begin(0);
        x.send(0, 1, 1, 1);
        x.send(0, 0, 2, 2);
        x.send(0, 1, 3, 3);
        x.send(-1, 1, 4, 4);
        due("finish(0, true)", 1, x.finish(0, true));
        String[] after = {"4:4", "1:1 4:4", "1:1 3:3 4:4"};
        for (String want : after) {
            due("act(1)", 1, x.act(1));
            sees(-1, 5, want);
        }
        due("act(0)", 1, x.act(0));
        sees(-1, 4, "2:2");
    }

    private void actInOrder() {
        fresh("16 act");
        due("act(0)", 0, x.act(0));
        x.send(-1, 0, 1, 10);
        x.send(-1, 0, 2, 0);
        x.send(-1, 0, 1, -10);
        x.send(-1, 1, 7, 7);
        due("act(0)", 1, x.act(0));
        sees(-1, 4, "1:10");
        due("act(0)", 1, x.act(0));
        sees(-1, 4, "1:10 2:0");
        due("act(0)", 1, x.act(0));
        sees(-1, 4, "1:0 2:0");
        due("act(0)", 0, x.act(0));
        sees(-1, 4, "1:0 2:0");
        sees(-1, 5, "");
        fresh("16 act on a full map");
        for (int key = 0; key < 10; key++) {
            x.send(-1, 1, key, key);
            due("act(1)", 1, x.act(1));
        }
        x.send(-1, 1, 10, 1);
        x.send(-1, 1, 9, 1);
        x.send(-1, 1, -1, 1);
        due("act(1)", FULL, x.act(1));
        due("waiting(1)", 2, x.waiting(1));
        due("act(1)", 1, x.act(1));
        due("act(1)", FULL, x.act(1));
        due("act(1)", 0, x.act(1));
        sees(-1, 5, "0:0 1:1 2:2 3:3 4:4 5:5 6:6 7:7 8:8 9:10");
        fresh("16 act wraps");
        x.send(-1, 0, 1, MIN);
        x.send(-1, 0, 1, -1);
        x.act(0);
        x.act(0);
        sees(-1, 4, "1:" + MAX);
        for (int wrong : NOT_BELOW_2) {
            due("act(" + wrong + ")", REFUSED, x.act(wrong));
        }
    }

    private void waitingActions() {
        fresh("17 waiting");
        for (int i = 0; i < 8; i++) {
            due("waiting(1)", i, x.waiting(1));
            x.send(-1, 1, 1, 1);
        }
        due("waiting(1)", 8, x.waiting(1));
        due("waiting(0)", 0, x.waiting(0));
        x.send(-1, 1, 1, 1);
        due("waiting(1)", 8, x.waiting(1));
        x.act(1);
        due("waiting(1)", 7, x.waiting(1));
        x.begin(0);
        x.send(0, 1, 1, 1);
        due("waiting(1)", 7, x.waiting(1));
        x.finish(0, true);
        due("waiting(1)", 8, x.waiting(1));
        for (int wrong : NOT_BELOW_2) {
            due("waiting(" + wrong + ")", REFUSED, x.waiting(wrong));
        }
    }

    public static void main(String[] args) {
        PromisesTest test = new PromisesTest();
        test.newObject();
        test.putAndItsEdges();
        test.removeAndItsEdges();
        test.combineKinds();
        test.combineIntoAnOperand();
        test.combineFullAndRefused();
        test.readersOfVariables();
        test.sameMaps();
        test.beginOpens();
        test.beginTakesASnapshot();
        test.loadReads();
        test.storeWrites();
        test.adjustOrdinarily();
        test.adjustWrittenRefs();
        test.adjustFullAndRefused();
        test.ensureRefs();
        test.sendAtOnceAndLater();
        test.finishEnds();
        test.finishWithConflicts();
        test.finishAdjustsAnew();
        test.finishSends();
        test.actInOrder();
        test.waitingActions();
        test.checks.end();
    }
}
