import java.util.ArrayList;
import java.util.Collections;
import java.util.IdentityHashMap;
import java.util.List;
import java.util.Map;
import java.util.Set;

/**
 * The document once more, as plainly as Java's objects can say it: terms are objects, pairs hold
 * their parts, heaps and mailboxes are lists. Shares nothing with the class under test but the
 * values of the constants.
 */
final class Model {
    static final class Pair {
        final Object head;
        final Object tail;

        Pair(Object head, Object tail) {
            this.head = head;
            this.tail = tail;
        }
    }

    static final class Blob {
        final int id;

        Blob(int id) {
            this.id = id;
        }
    }

    static final class Process {
        final Object[] registers = {NOTHING, NOTHING, NOTHING, NOTHING};
        final List<Object> mailbox = new ArrayList<>();
        final List<Pair> heap = new ArrayList<>();
    }

    private static final Object NOTHING = new Object();
    private static final int BAD = -1;
    private static final int NO_ROOM = -2;
    private static final int NOT_SO = -3;

    private final Process[] processes = {new Process(), new Process(), new Process()};

    int number(int process, int dst, int value) {
        return put(process, dst, value);
    }

    int move(int process, int dst, int src) {
        return wrong(process, dst, src) ? BAD : put(process, dst, processes[process].registers[src]);
    }

    int nil(int process, int dst) {
        return put(process, dst, NOTHING);
    }

    int blob(int process, int dst) {
        if (wrong(process, dst)) {
            return BAD;
        }
        Object before = processes[process].registers[dst];
        put(process, dst, NOTHING);
        Set<Integer> ids = keptIds();
        for (int id = 0; id < 6; id++) {
            if (!ids.contains(id)) {
                put(process, dst, new Blob(id));
                return id;
            }
        }
        put(process, dst, before);
        return NO_ROOM;
    }

    int pair(int process, int dst, int head, int tail) {
        if (wrong(process, dst, head, tail)) {
            return BAD;
        }
        Process p = processes[process];
        if (!roomFor(p, 1)) {
            return NO_ROOM;
        }
        Pair pair = new Pair(p.registers[head], p.registers[tail]);
        p.heap.add(pair);
        return put(process, dst, pair);
    }

    int part(int process, int dst, int src, boolean first) {
        if (wrong(process, dst, src)) {
            return BAD;
        }
        if (!(processes[process].registers[src] instanceof Pair)) {
            return NOT_SO;
        }
        Pair pair = (Pair) processes[process].registers[src];
        return put(process, dst, first ? pair.head : pair.tail);
    }

    int send(int process, int src, int to) {
        if (wrong(process, src) || wrong(to)) {
            return BAD;
        }
        Process p = processes[to];
        if (p.mailbox.size() == 3) {
            return NOT_SO;
        }
        Object term = processes[process].registers[src];
        Set<Pair> all = newSet();
        gather(term, all);
        if (!roomFor(p, all.size())) {
            return NO_ROOM;
        }
        Map<Pair, Pair> copies = new IdentityHashMap<>();
        Object copy = copy(term, copies);
        p.heap.addAll(copies.values());
        p.mailbox.add(copy);
        return 0;
    }

    int receive(int process, int dst) {
        if (wrong(process, dst)) {
            return BAD;
        }
        List<Object> mailbox = processes[process].mailbox;
        return mailbox.isEmpty() ? NOT_SO : put(process, dst, mailbox.remove(0));
    }

    int collect(int process) {
        if (wrong(process)) {
            return BAD;
        }
        removeUnreached(processes[process]);
        return pairs(process);
    }

    int restart(int process) {
        if (wrong(process)) {
            return BAD;
        }
        processes[process] = new Process();
        return 0;
    }

    int kind(int process, int register) {
        if (wrong(process, register)) {
            return BAD;
        }
        Object term = processes[process].registers[register];
        return term == NOTHING ? 0 : term instanceof Integer ? 1 : term instanceof Pair ? 2 : 3;
    }

    int value(int process, int register) {
        switch (kind(process, register)) {
            case 1:
                return (Integer) processes[process].registers[register];
            case 3:
                return ((Blob) processes[process].registers[register]).id;
            default:
                return 0;
        }
    }

    int same(int process, int a, int b) {
        if (wrong(process, a, b)) {
            return BAD;
        }
        // Integers are equal by value, all other objects only to themselves
        return processes[process].registers[a].equals(processes[process].registers[b]) ? 1 : 0;
    }

    int pairs(int process) {
        return wrong(process) ? BAD : processes[process].heap.size();
    }

    int blobs() {
        return keptIds().size();
    }

    private static boolean wrong(int process, int... registers) {
        for (int register : registers) {
            if (register < 0 || register > 3) {
                return true;
            }
        }
        return process < 0 || process > 2;
    }

    private int put(int process, int dst, Object term) {
        if (wrong(process, dst)) {
            return BAD;
        }
        processes[process].registers[dst] = term;
        return 0;
    }

    private static <T> Set<T> newSet() {
        return Collections.newSetFromMap(new IdentityHashMap<>());
    }

    private static void gather(Object term, Set<Pair> into) {
        if (term instanceof Pair && into.add((Pair) term)) {
            gather(((Pair) term).head, into);
            gather(((Pair) term).tail, into);
        }
    }

    private static Object copy(Object term, Map<Pair, Pair> copies) {
        if (!(term instanceof Pair)) {
            return term;
        }
        Pair pair = (Pair) term;
        if (!copies.containsKey(pair)) {
            copies.put(pair, new Pair(copy(pair.head, copies), copy(pair.tail, copies)));
        }
        return copies.get(pair);
    }

    private static boolean roomFor(Process p, int count) {
        if (p.heap.size() > 20 - count) {
            removeUnreached(p);
        }
        return p.heap.size() <= 20 - count;
    }

    private static void removeUnreached(Process p) {
        Set<Pair> reached = newSet();
        for (Object term : p.registers) {
            gather(term, reached);
        }
        for (Object term : p.mailbox) {
            gather(term, reached);
        }
        p.heap.removeIf(pair -> !reached.contains(pair));
    }

    private Set<Integer> keptIds() {
        Set<Object> held = newSet();
        for (Process p : processes) {
            Collections.addAll(held, p.registers);
            held.addAll(p.mailbox);
            for (Pair pair : p.heap) {
                held.add(pair.head);
                held.add(pair.tail);
            }
        }
        Set<Integer> ids = new java.util.HashSet<>();
        for (Object term : held) {
            if (term instanceof Blob && !ids.add(((Blob) term).id)) {
                throw new IllegalStateException("the model keeps two blobs with one id");
            }
        }
        return ids;
    }
}
