public final class TransactionalMaps {
    public static final int REFUSED = -1;
    public static final int FULL = -2;
    public static final int CONFLICT = -3;

    private static final int VARIABLES = 4;
    private static final int REFS = 4;
    private static final int AGENTS = 2;
    private static final int TRANSACTIONS = 3;
    private static final int NO_TRANSACTION = -1;

    private static final int MOST_ENTRIES = 10;
    private static final int MOST_ADJUSTMENTS = 8;
    private static final int MOST_SENDS = 6;
    private static final int MOST_WAITING = 8;

    private static final int UNTOUCHED = 0;
    private static final int WRITTEN = 1;
    private static final int COMMUTED = 2;

    private static final int KIND_FIRST = 0;
    private static final int KIND_UNION = 1;
    private static final int KIND_WITHOUT = 2;
    private static final int KIND_WITHIN = 3;

    // All maps lie in one row, so that a single set of helpers serves every holder of a map.
    // The agents follow the refs at once, because load without a transaction numbers them so.
    private static final int FIRST_REF_MAP = VARIABLES;
    private static final int FIRST_AGENT_MAP = FIRST_REF_MAP + REFS;
    private static final int TRANSACTION_REFS = TRANSACTIONS * REFS;
    private static final int FIRST_SNAPSHOT_MAP = FIRST_AGENT_MAP + AGENTS;
    private static final int FIRST_OWN_MAP = FIRST_SNAPSHOT_MAP + TRANSACTION_REFS;
    private static final int RESULT_MAP = FIRST_OWN_MAP + TRANSACTION_REFS;
    private static final int MAPS = RESULT_MAP + 1;

    private static final int MAP_CELLS = MAPS * MOST_ENTRIES;
    private static final int ADJUSTMENT_CELLS = TRANSACTIONS * MOST_ADJUSTMENTS;
    private static final int SEND_CELLS = TRANSACTIONS * MOST_SENDS;
    private static final int WAITING_CELLS = AGENTS * MOST_WAITING;

    // The entries of a map stand in ascending order of their keys.
    private final int[] sizes = new int[MAPS];
    private final int[] keys = new int[MAP_CELLS];
    private final int[] values = new int[MAP_CELLS];

    private final boolean[] opened = new boolean[TRANSACTIONS];

    private final int[] standing = new int[TRANSACTION_REFS];
    private final boolean[] ensured = new boolean[TRANSACTION_REFS];
    private final boolean[] changed = new boolean[TRANSACTION_REFS];

    private final int[] adjustmentCounts = new int[TRANSACTIONS];
    private final int[] adjustmentRefs = new int[ADJUSTMENT_CELLS];
    private final int[] adjustmentKeys = new int[ADJUSTMENT_CELLS];
    private final int[] adjustmentDeltas = new int[ADJUSTMENT_CELLS];

    private final int[] sendCounts = new int[TRANSACTIONS];
    private final int[] sendAgents = new int[SEND_CELLS];
    private final int[] sendKeys = new int[SEND_CELLS];
    private final int[] sendDeltas = new int[SEND_CELLS];

    // The oldest waiting action of an agent stands first.
    private final int[] waitingCounts = new int[AGENTS];
    private final int[] waitingKeys = new int[WAITING_CELLS];
    private final int[] waitingDeltas = new int[WAITING_CELLS];

    // The hint is not kept: this layout has nothing to spread.
    public TransactionalMaps(int spread) {
    }

    public int put(int variable, int key, int value) {
        if (!isVariable(variable)) {
            return REFUSED;
        }
        return setEntry(variable, key, value) ? sizes[variable] : FULL;
    }

    public int remove(int variable, int key) {
        if (!isVariable(variable)) {
            return REFUSED;
        }
        int place = placeOf(variable, key);
        if (!keyStandsAt(variable, place, key)) {
            return 0;
        }
        dropEntry(variable, place);
        return 1;
    }

    public int combine(int kind, int a, int b, int to) {
        if (!isVariable(a) || !isVariable(b) || !isVariable(to)) {
            return REFUSED;
        }
        if (kind < KIND_FIRST || kind > KIND_WITHIN) {
            return REFUSED;
        }
        // The result is built apart, because the variable to may be a or b, and may have to stay as it is.
        if (kind == KIND_WITHOUT || kind == KIND_WITHIN) {
            chooseEntries(a, b, kind == KIND_WITHIN);
        } else {
            copyMap(a, RESULT_MAP);
        }
        if (kind == KIND_UNION && !addEntries(b)) {
            return FULL;
        }
        copyMap(RESULT_MAP, to);
        return sizes[to];
    }

    public int get(int variable, int key, int absent) {
        return isVariable(variable) ? valueUnder(variable, key, absent) : absent;
    }

    public int size(int variable) {
        return isVariable(variable) ? sizes[variable] : REFUSED;
    }

    public int keyAt(int variable, int place) {
        if (!isVariable(variable) || place < 0 || place >= sizes[variable]) {
            return 0;
        }
        return keys[variable * MOST_ENTRIES + place];
    }

    public boolean same(int a, int b) {
        return isVariable(a) && isVariable(b) && mapsAreEqual(a, b);
    }

    public boolean begin(int transaction) {
        if (!isTransaction(transaction) || opened[transaction]) {
            return false;
        }
        opened[transaction] = true;
        adjustmentCounts[transaction] = 0;
        sendCounts[transaction] = 0;
        for (int ref = 0; ref < REFS; ref++) {
            int index = transaction * REFS + ref;
            standing[index] = UNTOUCHED;
            ensured[index] = false;
            changed[index] = false;
            copyMap(FIRST_REF_MAP + ref, FIRST_SNAPSHOT_MAP + index);
        }
        return true;
    }

    public int load(int transaction, int ref, int variable) {
        if (!isVariable(variable)) {
            return REFUSED;
        }
        if (transaction == NO_TRANSACTION) {
            if (!isBelow(ref, REFS + AGENTS)) {
                return REFUSED;
            }
            copyMap(FIRST_REF_MAP + ref, variable);
            return sizes[variable];
        }
        if (!isOpen(transaction) || !isRef(ref)) {
            return REFUSED;
        }
        int seen = seenMap(transaction, ref);
        copyMap(seen, variable);
        return sizes[variable];
    }

    public int store(int transaction, int ref, int variable) {
        if (!isOpen(transaction) || !isRef(ref) || !isVariable(variable)) {
            return REFUSED;
        }
        int index = transaction * REFS + ref;
        if (standing[index] == COMMUTED) {
            return REFUSED;
        }
        standing[index] = WRITTEN;
        copyMap(variable, FIRST_OWN_MAP + index);
        return sizes[variable];
    }

    public int adjust(int transaction, int ref, int key, int delta) {
        if (!isOpen(transaction) || !isRef(ref)) {
            return REFUSED;
        }
        int index = transaction * REFS + ref;
        int own = FIRST_OWN_MAP + index;
        boolean done = standing[index] == WRITTEN
            ? adjustMap(own, key, delta)
            : commute(transaction, ref, key, delta);
        return done ? sizes[own] : FULL;
    }

    public int ensure(int transaction, int ref) {
        if (!isOpen(transaction) || !isRef(ref)) {
            return REFUSED;
        }
        ensured[transaction * REFS + ref] = true;
        return 1;
    }

    public int send(int transaction, int agent, int key, int delta) {
        if (!isAgent(agent)) {
            return REFUSED;
        }
        if (transaction == NO_TRANSACTION) {
            return sendAtOnce(agent, key, delta);
        }
        if (!isOpen(transaction)) {
            return REFUSED;
        }
        return sendLater(transaction, agent, key, delta);
    }

    public int finish(int transaction, boolean commit) {
        if (!isOpen(transaction)) {
            return REFUSED;
        }
        opened[transaction] = false;
        if (!commit) {
            return 0;
        }
        if (isInConflict(transaction)) {
            return CONFLICT;
        }
        if (!adjustAnew(transaction) || !sendsFit(transaction)) {
            return FULL;
        }
        publishRefs(transaction);
        deliverSends(transaction);
        return 1;
    }

    public int act(int agent) {
        if (!isAgent(agent)) {
            return REFUSED;
        }
        if (waitingCounts[agent] == 0) {
            return 0;
        }
        int oldest = agent * MOST_WAITING;
        int key = waitingKeys[oldest];
        int delta = waitingDeltas[oldest];
        dropOldestAction(agent);
        return adjustMap(FIRST_AGENT_MAP + agent, key, delta) ? 1 : FULL;
    }

    public int waiting(int agent) {
        return isAgent(agent) ? waitingCounts[agent] : REFUSED;
    }

    private static boolean isBelow(int number, int bound) {
        return number >= 0 && number < bound;
    }

    private static boolean isVariable(int variable) {
        return isBelow(variable, VARIABLES);
    }

    private static boolean isRef(int ref) {
        return isBelow(ref, REFS);
    }

    private static boolean isAgent(int agent) {
        return isBelow(agent, AGENTS);
    }

    private static boolean isTransaction(int transaction) {
        return isBelow(transaction, TRANSACTIONS);
    }

    private boolean isOpen(int transaction) {
        return isTransaction(transaction) && opened[transaction];
    }

    // Where the key stands, or where it would have to be put in.
    private int placeOf(int map, int key) {
        int first = map * MOST_ENTRIES;
        int size = sizes[map];
        int place = 0;
        while (place < size && keys[first + place] < key) {
            place++;
        }
        return place;
    }

    private boolean keyStandsAt(int map, int place, int key) {
        return place < sizes[map] && keys[map * MOST_ENTRIES + place] == key;
    }

    private boolean hasKey(int map, int key) {
        int place = placeOf(map, key);
        return keyStandsAt(map, place, key);
    }

    private int valueUnder(int map, int key, int absent) {
        int place = placeOf(map, key);
        return keyStandsAt(map, place, key) ? values[map * MOST_ENTRIES + place] : absent;
    }

    // False, and nothing changes, if the map has no room for a new key.
    private boolean setEntry(int map, int key, int value) {
        int place = placeOf(map, key);
        if (!keyStandsAt(map, place, key)) {
            if (sizes[map] >= MOST_ENTRIES) {
                return false;
            }
            makeRoom(map, place);
        }
        int cell = map * MOST_ENTRIES + place;
        keys[cell] = key;
        values[cell] = value;
        return true;
    }

    private void makeRoom(int map, int place) {
        int first = map * MOST_ENTRIES;
        for (int cell = first + sizes[map]; cell > first + place; cell--) {
            keys[cell] = keys[cell - 1];
            values[cell] = values[cell - 1];
        }
        sizes[map]++;
    }

    private void dropEntry(int map, int place) {
        int first = map * MOST_ENTRIES;
        int last = first + sizes[map] - 1;
        for (int cell = first + place; cell < last; cell++) {
            keys[cell] = keys[cell + 1];
            values[cell] = values[cell + 1];
        }
        sizes[map]--;
    }

    private void copyMap(int from, int to) {
        int fromFirst = from * MOST_ENTRIES;
        int toFirst = to * MOST_ENTRIES;
        int size = sizes[from];
        for (int place = 0; place < size; place++) {
            keys[toFirst + place] = keys[fromFirst + place];
            values[toFirst + place] = values[fromFirst + place];
        }
        sizes[to] = size;
    }

    private boolean mapsAreEqual(int a, int b) {
        int size = sizes[a];
        if (size != sizes[b]) {
            return false;
        }
        int aFirst = a * MOST_ENTRIES;
        int bFirst = b * MOST_ENTRIES;
        for (int place = 0; place < size; place++) {
            if (keys[aFirst + place] != keys[bFirst + place]
                || values[aFirst + place] != values[bFirst + place]) {
                return false;
            }
        }
        return true;
    }

    // False, and nothing changes, if the adjusting is impossible.
    private boolean adjustMap(int map, int key, int delta) {
        int sum = valueUnder(map, key, 0) + delta;
        return setEntry(map, key, sum);
    }

    // The result map gets the entries of a whose key is in b, or those whose key is not.
    private void chooseEntries(int a, int b, boolean keyInB) {
        int first = a * MOST_ENTRIES;
        int size = sizes[a];
        sizes[RESULT_MAP] = 0;
        for (int cell = first; cell < first + size; cell++) {
            if (hasKey(b, keys[cell]) == keyInB) {
                setEntry(RESULT_MAP, keys[cell], values[cell]);
            }
        }
    }

    // False if the result map has no room for all of them.
    private boolean addEntries(int from) {
        int first = from * MOST_ENTRIES;
        int size = sizes[from];
        for (int cell = first; cell < first + size; cell++) {
            if (!setEntry(RESULT_MAP, keys[cell], values[cell])) {
                return false;
            }
        }
        return true;
    }

    private int seenMap(int transaction, int ref) {
        int index = transaction * REFS + ref;
        return standing[index] == UNTOUCHED ? FIRST_SNAPSHOT_MAP + index : FIRST_OWN_MAP + index;
    }

    private boolean commute(int transaction, int ref, int key, int delta) {
        int count = adjustmentCounts[transaction];
        if (count >= MOST_ADJUSTMENTS) {
            return false;
        }
        int index = transaction * REFS + ref;
        int own = FIRST_OWN_MAP + index;
        int seen = seenMap(transaction, ref);
        // An untouched ref stays so if the adjusting fails, and then nobody sees this copy.
        copyMap(seen, own);
        if (!adjustMap(own, key, delta)) {
            return false;
        }
        standing[index] = COMMUTED;
        int cell = transaction * MOST_ADJUSTMENTS + count;
        adjustmentRefs[cell] = ref;
        adjustmentKeys[cell] = key;
        adjustmentDeltas[cell] = delta;
        adjustmentCounts[transaction]++;
        return true;
    }

    private int sendAtOnce(int agent, int key, int delta) {
        if (waitingCounts[agent] >= MOST_WAITING) {
            return FULL;
        }
        joinQueue(agent, key, delta);
        return waitingCounts[agent];
    }

    private int sendLater(int transaction, int agent, int key, int delta) {
        int count = sendCounts[transaction];
        if (count >= MOST_SENDS) {
            return FULL;
        }
        int cell = transaction * MOST_SENDS + count;
        sendAgents[cell] = agent;
        sendKeys[cell] = key;
        sendDeltas[cell] = delta;
        sendCounts[transaction]++;
        return sendCounts[transaction];
    }

    private void joinQueue(int agent, int key, int delta) {
        int cell = agent * MOST_WAITING + waitingCounts[agent];
        waitingKeys[cell] = key;
        waitingDeltas[cell] = delta;
        waitingCounts[agent]++;
    }

    private void dropOldestAction(int agent) {
        int first = agent * MOST_WAITING;
        int last = first + waitingCounts[agent] - 1;
        for (int cell = first; cell < last; cell++) {
            waitingKeys[cell] = waitingKeys[cell + 1];
            waitingDeltas[cell] = waitingDeltas[cell + 1];
        }
        waitingCounts[agent]--;
    }

    private boolean isInConflict(int transaction) {
        for (int ref = 0; ref < REFS; ref++) {
            int index = transaction * REFS + ref;
            if (changed[index] && (standing[index] == WRITTEN || ensured[index])) {
                return true;
            }
        }
        return false;
    }

    // The own maps of commuted refs are made anew in their place: whatever finish answers,
    // the transaction is closed, so nobody sees the old ones again. False if impossible.
    private boolean adjustAnew(int transaction) {
        for (int ref = 0; ref < REFS; ref++) {
            int index = transaction * REFS + ref;
            if (standing[index] == COMMUTED) {
                copyMap(FIRST_REF_MAP + ref, FIRST_OWN_MAP + index);
            }
        }
        int first = transaction * MOST_ADJUSTMENTS;
        int count = adjustmentCounts[transaction];
        for (int cell = first; cell < first + count; cell++) {
            int own = FIRST_OWN_MAP + transaction * REFS + adjustmentRefs[cell];
            if (!adjustMap(own, adjustmentKeys[cell], adjustmentDeltas[cell])) {
                return false;
            }
        }
        return true;
    }

    private boolean sendsFit(int transaction) {
        for (int agent = 0; agent < AGENTS; agent++) {
            int sends = countSendsTo(transaction, agent);
            if (waitingCounts[agent] + sends > MOST_WAITING) {
                return false;
            }
        }
        return true;
    }

    private int countSendsTo(int transaction, int agent) {
        int first = transaction * MOST_SENDS;
        int count = sendCounts[transaction];
        int sends = 0;
        for (int cell = first; cell < first + count; cell++) {
            if (sendAgents[cell] == agent) {
                sends++;
            }
        }
        return sends;
    }

    private void publishRefs(int transaction) {
        for (int ref = 0; ref < REFS; ref++) {
            int index = transaction * REFS + ref;
            if (standing[index] != UNTOUCHED) {
                copyMap(FIRST_OWN_MAP + index, FIRST_REF_MAP + ref);
                markChanged(ref);
            }
        }
    }

    // Marks it for closed transactions too: begin takes their marks away.
    private void markChanged(int ref) {
        for (int transaction = 0; transaction < TRANSACTIONS; transaction++) {
            changed[transaction * REFS + ref] = true;
        }
    }

    private void deliverSends(int transaction) {
        int first = transaction * MOST_SENDS;
        int count = sendCounts[transaction];
        for (int cell = first; cell < first + count; cell++) {
            joinQueue(sendAgents[cell], sendKeys[cell], sendDeltas[cell]);
        }
    }
}
