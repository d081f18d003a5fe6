/**
 * Three processes with heaps of their own, which hold pairs, send each other whole structures by
 * copying, and share large blobs.
 *
 * <p>Whatever can hold a term is a cell: first the places of the processes (for each process its
 * registers, then its mailbox), then two cells for each pair, its head and its tail. A cell that is
 * not in use holds NIL, so that the cells alone tell which blobs are held.
 */
public final class ProcessHeaps {
    public static final int NIL = 0;
    public static final int NUMBER = 1;
    public static final int PAIR = 2;
    public static final int BLOB = 3;
    public static final int BAD = -1;
    public static final int NO_ROOM = -2;
    public static final int NOT_SO = -3;

    private static final int PROCESSES = 3;
    private static final int REGISTERS = 4;
    private static final int MAILBOX_SIZE = 3;
    private static final int HEAP_SIZE = 20;
    private static final int BLOB_IDS = 6;

    private static final int PLACES_OF_ONE = REGISTERS + MAILBOX_SIZE;
    private static final int ALL_PLACES = PROCESSES * PLACES_OF_ONE;
    private static final int ALL_SLOTS = PROCESSES * HEAP_SIZE;
    private static final int ALL_CELLS = ALL_PLACES + 2 * ALL_SLOTS;

    /** The kind of the term in each cell. */
    private final int[] kinds = new int[ALL_CELLS];

    /** The number, the blob's id or the pair's slot in each cell; 0 for NIL, so that all NILs are equal. */
    private final int[] values = new int[ALL_CELLS];

    /** How many terms the mailbox of each process holds. */
    private final int[] mailCounts = new int[PROCESSES];

    /** Whether a pair lives in each slot; the heaps lie one behind the other. */
    private final boolean[] used = new boolean[ALL_SLOTS];

    /** The slots of the pairs found by the search that was made last, each once, and how many they are. */
    private final int[] found = new int[ALL_SLOTS];
    private final boolean[] isFound = new boolean[ALL_SLOTS];
    private int foundCount = 0;

    /** For each found slot, the slot of its copy while a term is sent. */
    private final int[] copySlots = new int[ALL_SLOTS];

    /** Nothing is left to do: cells of zeros hold NIL. */
    public ProcessHeaps() {
    }

    public int number(int process, int dst, int value) {
        if (!isRegister(process, dst)) {
            return BAD;
        }
        int target = registerCell(process, dst);
        setCell(target, NUMBER, value);
        return 0;
    }

    public int move(int process, int dst, int src) {
        if (!isRegister(process, dst) || !isRegister(process, src)) {
            return BAD;
        }
        int target = registerCell(process, dst);
        int source = registerCell(process, src);
        setCell(target, kinds[source], values[source]);
        return 0;
    }

    public int nil(int process, int dst) {
        if (!isRegister(process, dst)) {
            return BAD;
        }
        int target = registerCell(process, dst);
        setCell(target, NIL, 0);
        return 0;
    }

    public int blob(int process, int dst) {
        if (!isRegister(process, dst)) {
            return BAD;
        }
        int target = registerCell(process, dst);
        int kindBefore = kinds[target];
        int valueBefore = values[target];
        setCell(target, NIL, 0);
        int id = leastFreeBlob();
        if (id >= BLOB_IDS) {
            setCell(target, kindBefore, valueBefore);
            return NO_ROOM;
        }
        setCell(target, BLOB, id);
        return id;
    }

    public int pair(int process, int dst, int head, int tail) {
        if (!isRegister(process, dst) || !isRegister(process, head) || !isRegister(process, tail)) {
            return BAD;
        }
        if (!makeRoom(process, 1)) {
            return NO_ROOM;
        }
        int slot = takeSlot(process);
        int ofPair = headCell(slot);
        int first = registerCell(process, head);
        int second = registerCell(process, tail);
        int target = registerCell(process, dst);
        setCell(ofPair, kinds[first], values[first]);
        setCell(ofPair + 1, kinds[second], values[second]);
        setCell(target, PAIR, slot);
        return 0;
    }

    public int part(int process, int dst, int src, boolean first) {
        if (!isRegister(process, dst) || !isRegister(process, src)) {
            return BAD;
        }
        int holder = registerCell(process, src);
        if (kinds[holder] != PAIR) {
            return NOT_SO;
        }
        int target = registerCell(process, dst);
        int source = headCell(values[holder]);
        if (!first) {
            source = source + 1;
        }
        setCell(target, kinds[source], values[source]);
        return 0;
    }

    public int send(int process, int src, int to) {
        if (!isRegister(process, src) || !isProcess(to)) {
            return BAD;
        }
        if (mailCounts[to] >= MAILBOX_SIZE) {
            return NOT_SO;
        }
        int source = registerCell(process, src);
        findFromCells(source, 1);
        if (!makeRoom(to, foundCount)) {
            return NO_ROOM;
        }
        // Making room may have collected, and that is a search of its own.
        findFromCells(source, 1);
        copyFound(to);
        int target = mailCell(to, mailCounts[to]);
        setToCopy(target, source);
        mailCounts[to]++;
        return 0;
    }

    public int receive(int process, int dst) {
        if (!isRegister(process, dst)) {
            return BAD;
        }
        if (mailCounts[process] <= 0) {
            return NOT_SO;
        }
        int target = registerCell(process, dst);
        int oldest = mailCell(process, 0);
        setCell(target, kinds[oldest], values[oldest]);
        dropOldestMail(process);
        return 0;
    }

    public int collect(int process) {
        if (!isProcess(process)) {
            return BAD;
        }
        removeUnreached(process);
        return countPairs(process);
    }

    public int restart(int process) {
        if (!isProcess(process)) {
            return BAD;
        }
        int firstPlace = registerCell(process, 0);
        for (int i = 0; i < PLACES_OF_ONE; i++) {
            setCell(firstPlace + i, NIL, 0);
        }
        mailCounts[process] = 0;
        // Nothing is reached from places that all hold NIL.
        removeUnreached(process);
        return 0;
    }

    public int kind(int process, int register) {
        if (!isRegister(process, register)) {
            return BAD;
        }
        int cell = registerCell(process, register);
        return kinds[cell];
    }

    public int value(int process, int register) {
        if (!isRegister(process, register)) {
            return 0;
        }
        int cell = registerCell(process, register);
        // The slot of a pair is no one's business outside of this class.
        return kinds[cell] == PAIR ? 0 : values[cell];
    }

    public int same(int process, int a, int b) {
        if (!isRegister(process, a) || !isRegister(process, b)) {
            return BAD;
        }
        int one = registerCell(process, a);
        int other = registerCell(process, b);
        return kinds[one] == kinds[other] && values[one] == values[other] ? 1 : 0;
    }

    public int pairs(int process) {
        if (!isProcess(process)) {
            return BAD;
        }
        return countPairs(process);
    }

    public int blobs() {
        int count = 0;
        for (int id = 0; id < BLOB_IDS; id++) {
            if (isKept(id)) {
                count++;
            }
        }
        return count;
    }

    private static boolean isProcess(int process) {
        return process >= 0 && process < PROCESSES;
    }

    private static boolean isRegister(int process, int register) {
        return isProcess(process) && register >= 0 && register < REGISTERS;
    }

    private static int registerCell(int process, int register) {
        return process * PLACES_OF_ONE + register;
    }

    private static int mailCell(int process, int position) {
        return process * PLACES_OF_ONE + REGISTERS + position;
    }

    /** The cell of the pair's head; the cell of its tail is the next one. */
    private static int headCell(int slot) {
        return ALL_PLACES + 2 * slot;
    }

    private void setCell(int cell, int kind, int value) {
        kinds[cell] = kind;
        values[cell] = value;
    }

    private void dropOldestMail(int process) {
        int oldest = mailCell(process, 0);
        int newest = oldest + MAILBOX_SIZE - 1;
        for (int cell = oldest; cell < newest; cell++) {
            setCell(cell, kinds[cell + 1], values[cell + 1]);
        }
        setCell(newest, NIL, 0);
        mailCounts[process]--;
    }

    private boolean isKept(int id) {
        for (int cell = 0; cell < ALL_CELLS; cell++) {
            if (kinds[cell] == BLOB && values[cell] == id) {
                return true;
            }
        }
        return false;
    }

    /** Answers BLOB_IDS if no id is free. */
    private int leastFreeBlob() {
        for (int id = 0; id < BLOB_IDS; id++) {
            if (!isKept(id)) {
                return id;
            }
        }
        return BLOB_IDS;
    }

    private int countPairs(int process) {
        int count = 0;
        for (int i = 0; i < HEAP_SIZE; i++) {
            if (used[process * HEAP_SIZE + i]) {
                count++;
            }
        }
        return count;
    }

    private boolean makeRoom(int process, int wanted) {
        if (countPairs(process) > HEAP_SIZE - wanted) {
            removeUnreached(process);
        }
        return countPairs(process) <= HEAP_SIZE - wanted;
    }

    /** Room has been made before, so the last slot is free if all others are in use. */
    private int takeSlot(int process) {
        int slot = process * HEAP_SIZE;
        int last = slot + HEAP_SIZE - 1;
        while (slot < last && used[slot]) {
            slot++;
        }
        used[slot] = true;
        return slot;
    }

    /** Pairs that stay keep their slots: a pair is known by its slot wherever it is held. */
    private void removeUnreached(int process) {
        int firstPlace = registerCell(process, 0);
        findFromCells(firstPlace, PLACES_OF_ONE);
        for (int i = 0; i < HEAP_SIZE; i++) {
            int slot = process * HEAP_SIZE + i;
            if (!isFound[slot]) {
                removePair(slot);
            }
        }
    }

    /** The parts become NIL, as they would keep their blobs otherwise. */
    private void removePair(int slot) {
        int head = headCell(slot);
        used[slot] = false;
        setCell(head, NIL, 0);
        setCell(head + 1, NIL, 0);
    }

    /** Finds every pair that the given cells hold, directly or by heads and tails. */
    private void findFromCells(int firstCell, int count) {
        for (int slot = 0; slot < ALL_SLOTS; slot++) {
            isFound[slot] = false;
        }
        foundCount = 0;
        for (int i = 0; i < count; i++) {
            findInCell(firstCell + i);
        }
        // The list grows while it is gone through; it ends as no pair enters it twice.
        for (int next = 0; next < ALL_SLOTS && next < foundCount; next++) {
            int head = headCell(found[next]);
            findInCell(head);
            findInCell(head + 1);
        }
    }

    private void findInCell(int cell) {
        if (kinds[cell] == PAIR && !isFound[values[cell]]) {
            isFound[values[cell]] = true;
            found[foundCount] = values[cell];
            foundCount++;
        }
    }

    /** All copies get their slots first, so that each can be held by copies made before it. */
    private void copyFound(int to) {
        for (int i = 0; i < ALL_SLOTS && i < foundCount; i++) {
            copySlots[found[i]] = takeSlot(to);
        }
        for (int i = 0; i < ALL_SLOTS && i < foundCount; i++) {
            int original = headCell(found[i]);
            int copy = headCell(copySlots[found[i]]);
            setToCopy(copy, original);
            setToCopy(copy + 1, original + 1);
        }
    }

    private void setToCopy(int target, int source) {
        int value = values[source];
        if (kinds[source] == PAIR) {
            value = copySlots[value];
        }
        setCell(target, kinds[source], value);
    }
}
