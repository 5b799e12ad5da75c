import java.util.ArrayDeque;
import java.util.ArrayList;
import java.util.Arrays;
import java.util.HashSet;
import java.util.List;
import java.util.Set;
import java.util.TreeMap;

/**
 * The document told once more over the Java library, without regard to LANGUAGE.md.
 * It is built otherwise than the program on purpose, so that both do not share a fault:
 * maps are never changed but replaced, and what CHANGED means is read from a log of all successful finishes.
 */
final class MapsModel {
    private static final int REFUSED = -1;
    private static final int FULL = -2;
    private static final int CONFLICT = -3;

    private static final class Step {
        final int holder;
        final int key;
        final int delta;

        Step(int holder, int key, int delta) {
            this.holder = holder;
            this.key = key;
            this.delta = delta;
        }
    }

    private static final class Transaction {
        final int begun;
        final List<TreeMap<Integer, Integer>> snapshot;
        final List<TreeMap<Integer, Integer>> own = new ArrayList<>(Arrays.asList(null, null, null, null));
        final Set<Integer> written = new HashSet<>();
        final Set<Integer> commuted = new HashSet<>();
        final Set<Integer> ensured = new HashSet<>();
        final List<Step> adjustments = new ArrayList<>();
        final List<Step> sends = new ArrayList<>();

        Transaction(int begun, List<TreeMap<Integer, Integer>> snapshot) {
            this.begun = begun;
            this.snapshot = snapshot;
        }

        TreeMap<Integer, Integer> sees(int ref) {
            return own.get(ref) != null ? own.get(ref) : snapshot.get(ref);
        }
    }

    private final List<TreeMap<Integer, Integer>> variables = emptyMaps(4);
    private final List<TreeMap<Integer, Integer>> refs = emptyMaps(4);
    private final List<TreeMap<Integer, Integer>> agents = emptyMaps(2);
    private final List<ArrayDeque<Step>> queues = List.of(new ArrayDeque<>(), new ArrayDeque<>());
    private final Transaction[] open = new Transaction[3];
    private final List<Set<Integer>> log = new ArrayList<>();

    private static List<TreeMap<Integer, Integer>> emptyMaps(int count) {
        List<TreeMap<Integer, Integer>> maps = new ArrayList<>();
        for (int i = 0; i < count; i++) {
            maps.add(new TreeMap<>());
        }
        return maps;
    }

    private static boolean below(int number, int bound) {
        return 0 <= number && number < bound;
    }

    private boolean isOpen(int transaction) {
        return below(transaction, 3) && open[transaction] != null;
    }

    /** The adjusted map, or null if that is impossible. */
    private static TreeMap<Integer, Integer> adjusted(TreeMap<Integer, Integer> map, int key, int delta) {
        TreeMap<Integer, Integer> result = new TreeMap<>(map);
        result.merge(key, delta, Integer::sum);
        return result.size() > 10 ? null : result;
    }

    int put(int variable, int key, int value) {
        if (!below(variable, 4)) {
            return REFUSED;
        }
        TreeMap<Integer, Integer> map = new TreeMap<>(variables.get(variable));
        map.put(key, value);
        if (map.size() > 10) {
            return FULL;
        }
        variables.set(variable, map);
        return map.size();
    }

    int remove(int variable, int key) {
        if (!below(variable, 4)) {
            return REFUSED;
        }
        TreeMap<Integer, Integer> map = new TreeMap<>(variables.get(variable));
        boolean there = map.remove(key) != null;
        variables.set(variable, map);
        return there ? 1 : 0;
    }

    int combine(int kind, int a, int b, int to) {
        if (!below(a, 4) || !below(b, 4) || !below(to, 4) || !below(kind, 4)) {
            return REFUSED;
        }
        TreeMap<Integer, Integer> result = new TreeMap<>(variables.get(a));
        TreeMap<Integer, Integer> other = variables.get(b);
        switch (kind) {
            case 1: result.putAll(other); break;
            case 2: result.keySet().removeAll(other.keySet()); break;
            case 3: result.keySet().retainAll(other.keySet()); break;
            default: break;
        }
        if (result.size() > 10) {
            return FULL;
        }
        variables.set(to, result);
        return result.size();
    }

    int get(int variable, int key, int absent) {
        return below(variable, 4) ? variables.get(variable).getOrDefault(key, absent) : absent;
    }

    int size(int variable) {
        return below(variable, 4) ? variables.get(variable).size() : REFUSED;
    }

    int keyAt(int variable, int place) {
        if (!below(variable, 4) || !below(place, variables.get(variable).size())) {
            return 0;
        }
        return new ArrayList<>(variables.get(variable).keySet()).get(place);
    }

    boolean same(int a, int b) {
        return below(a, 4) && below(b, 4) && variables.get(a).equals(variables.get(b));
    }

    boolean begin(int transaction) {
        if (!below(transaction, 3) || open[transaction] != null) {
            return false;
        }
        open[transaction] = new Transaction(log.size(), new ArrayList<>(refs));
        return true;
    }

    int load(int transaction, int ref, int variable) {
        TreeMap<Integer, Integer> map;
        if (transaction == -1) {
            if (!below(ref, 6)) {
                return REFUSED;
            }
            map = ref < 4 ? refs.get(ref) : agents.get(ref - 4);
        } else {
            if (!isOpen(transaction) || !below(ref, 4)) {
                return REFUSED;
            }
            map = open[transaction].sees(ref);
        }
        if (!below(variable, 4)) {
            return REFUSED;
        }
        variables.set(variable, map);
        return map.size();
    }

    int store(int transaction, int ref, int variable) {
        if (!isOpen(transaction) || !below(ref, 4) || !below(variable, 4)) {
            return REFUSED;
        }
        Transaction current = open[transaction];
        if (current.commuted.contains(ref)) {
            return REFUSED;
        }
        current.written.add(ref);
        current.own.set(ref, variables.get(variable));
        return variables.get(variable).size();
    }

    int adjust(int transaction, int ref, int key, int delta) {
        if (!isOpen(transaction) || !below(ref, 4)) {
            return REFUSED;
        }
        Transaction current = open[transaction];
        boolean written = current.written.contains(ref);
        if (!written && current.adjustments.size() == 8) {
            return FULL;
        }
        TreeMap<Integer, Integer> map = adjusted(current.sees(ref), key, delta);
        if (map == null) {
            return FULL;
        }
        if (!written) {
            current.adjustments.add(new Step(ref, key, delta));
            current.commuted.add(ref);
        }
        current.own.set(ref, map);
        return map.size();
    }

    int ensure(int transaction, int ref) {
        if (!isOpen(transaction) || !below(ref, 4)) {
            return REFUSED;
        }
        open[transaction].ensured.add(ref);
        return 1;
    }

    int send(int transaction, int agent, int key, int delta) {
        if (!below(agent, 2) || transaction != -1 && !isOpen(transaction)) {
            return REFUSED;
        }
        Step step = new Step(agent, key, delta);
        if (transaction == -1) {
            if (queues.get(agent).size() == 8) {
                return FULL;
            }
            queues.get(agent).addLast(step);
            return queues.get(agent).size();
        }
        if (open[transaction].sends.size() == 6) {
            return FULL;
        }
        open[transaction].sends.add(step);
        return open[transaction].sends.size();
    }

    int finish(int transaction, boolean commit) {
        if (!isOpen(transaction)) {
            return REFUSED;
        }
        Transaction ending = open[transaction];
        open[transaction] = null;
        if (!commit) {
            return 0;
        }
        for (Set<Integer> touched : log.subList(ending.begun, log.size())) {
            for (int ref : touched) {
                if (ending.written.contains(ref) || ending.ensured.contains(ref)) {
                    return CONFLICT;
                }
            }
        }
        List<TreeMap<Integer, Integer>> after = new ArrayList<>(refs);
        for (Step step : ending.adjustments) {
            TreeMap<Integer, Integer> map = adjusted(after.get(step.holder), step.key, step.delta);
            if (map == null) {
                return FULL;
            }
            after.set(step.holder, map);
        }
        for (int ref : ending.written) {
            after.set(ref, ending.own.get(ref));
        }
        for (int agent = 0; agent < 2; agent++) {
            int number = agent;
            long sends = ending.sends.stream().filter(step -> step.holder == number).count();
            if (queues.get(agent).size() + sends > 8) {
                return FULL;
            }
        }
        for (int ref = 0; ref < 4; ref++) {
            refs.set(ref, after.get(ref));
        }
        for (Step step : ending.sends) {
            queues.get(step.holder).addLast(step);
        }
        Set<Integer> touched = new HashSet<>(ending.written);
        touched.addAll(ending.commuted);
        log.add(touched);
        return 1;
    }

    int act(int agent) {
        if (!below(agent, 2)) {
            return REFUSED;
        }
        Step step = queues.get(agent).pollFirst();
        if (step == null) {
            return 0;
        }
        TreeMap<Integer, Integer> map = adjusted(agents.get(agent), step.key, step.delta);
        if (map == null) {
            return FULL;
        }
        agents.set(agent, map);
        return 1;
    }

    int waiting(int agent) {
        return below(agent, 2) ? queues.get(agent).size() : REFUSED;
    }
}
