import java.util.ArrayList;
import java.util.List;

/** Long runs of calls whose answers must be those of the model; the runs are the same each time. */
public final class ModelTest {
    private static final int RUNS = 6000;
    private static final int CALLS = 512;

    private static final int NUMBER = 0;
    private static final int MOVE = 1;
    private static final int NIL = 2;
    private static final int BLOB = 3;
    private static final int PAIR = 4;
    private static final int PART = 5;
    private static final int SEND = 6;
    private static final int RECEIVE = 7;
    private static final int COLLECT = 8;
    private static final int RESTART = 9;
    private static final int KIND = 10;
    private static final int VALUE = 11;
    private static final int SAME = 12;
    private static final int PAIRS = 13;
    private static final int BLOBS = 14;
    private static final int METHODS = 15;
    private static final String[] NAMES = {
        "number", "move", "nil", "blob", "pair", "part", "send", "receive", "collect", "restart",
        "kind", "value", "same", "pairs", "blobs"};

    private static final int[] NUMBERS = {0, 1, 2, 3, 4, 5, -1, -2, Integer.MAX_VALUE, Integer.MIN_VALUE};
    private static final int[] OUT_OF_RANGE = {-1, 3, 4, 5, 20, 1 << 30, Integer.MAX_VALUE, Integer.MIN_VALUE};

    private static long state = 20261115L;
    private static final int[][] refusals = new int[METHODS][4];

    private ModelTest() {
    }

    public static void main(String[] args) {
        for (int run = 0; run < RUNS; run++) {
            oneRun(run);
        }
        refusalsWereMet();
        Due.end();
    }

    /** A plain generator of our own, so that each run of the tests makes the same calls. */
    private static int below(int bound) {
        state = state * 6364136223846793005L + 1442695040888963407L;
        return (int) ((state >>> 33) % bound);
    }

    private static void oneRun(int run) {
        ProcessHeaps heaps = new ProcessHeaps();
        Model model = new Model();
        int[] weights = weights();
        List<String> calls = new ArrayList<>();
        for (int i = 0; i < CALLS; i++) {
            int method = pick(weights);
            int[] a = {process(), register(), register(), register()};
            if (method == NUMBER) {
                a[2] = NUMBERS[below(NUMBERS.length)];
            } else if (method == SEND) {
                a[2] = process();
            }
            boolean first = below(2) == 0;
            int want = ask(model, method, a, first);
            int got = ask(heaps, method, a, first);
            calls.add(NAMES[method] + " " + a[0] + " " + a[1] + " " + a[2] + " " + a[3] + " " + first + " -> " + got);
            if (want < 0 && want >= -3) {
                refusals[method][-want]++;
            }
            if (want != got) {
                Due.tell("run " + run + ", last call, due is " + want + ":\n  " + String.join("\n  ", calls));
                return;
            }
        }
    }

    /** Each run likes other methods, so that heaps, mailboxes and blobs run full in some of them. */
    private static int[] weights() {
        int[] choices = {1, 2, 5, 10, 20};
        int[] weights = new int[METHODS];
        for (int method = 0; method < METHODS; method++) {
            weights[method] = choices[below(choices.length)];
        }
        weights[PAIR] *= 3;
        weights[RESTART] = below(2);
        weights[COLLECT] = below(3);
        return weights;
    }

    private static int pick(int[] weights) {
        int sum = 0;
        for (int weight : weights) {
            sum += weight;
        }
        int rest = below(sum);
        int method = 0;
        while (rest >= weights[method]) {
            rest -= weights[method];
            method++;
        }
        return method;
    }

    private static int process() {
        return below(60) == 0 ? OUT_OF_RANGE[below(OUT_OF_RANGE.length)] : below(3);
    }

    private static int register() {
        return below(60) == 0 ? OUT_OF_RANGE[below(OUT_OF_RANGE.length)] : below(4);
    }

    private static int ask(ProcessHeaps x, int method, int[] a, boolean first) {
        switch (method) {
            case NUMBER: return x.number(a[0], a[1], a[2]);
            case MOVE: return x.move(a[0], a[1], a[2]);
            case NIL: return x.nil(a[0], a[1]);
            case BLOB: return x.blob(a[0], a[1]);
            case PAIR: return x.pair(a[0], a[1], a[2], a[3]);
            case PART: return x.part(a[0], a[1], a[2], first);
            case SEND: return x.send(a[0], a[1], a[2]);
            case RECEIVE: return x.receive(a[0], a[1]);
            case COLLECT: return x.collect(a[0]);
            case RESTART: return x.restart(a[0]);
            case KIND: return x.kind(a[0], a[1]);
            case VALUE: return x.value(a[0], a[1]);
            case SAME: return x.same(a[0], a[1], a[2]);
            case PAIRS: return x.pairs(a[0]);
            default: return x.blobs();
        }
    }

    private static int ask(Model x, int method, int[] a, boolean first) {
        switch (method) {
            case NUMBER: return x.number(a[0], a[1], a[2]);
            case MOVE: return x.move(a[0], a[1], a[2]);
            case NIL: return x.nil(a[0], a[1]);
            case BLOB: return x.blob(a[0], a[1]);
            case PAIR: return x.pair(a[0], a[1], a[2], a[3]);
            case PART: return x.part(a[0], a[1], a[2], first);
            case SEND: return x.send(a[0], a[1], a[2]);
            case RECEIVE: return x.receive(a[0], a[1]);
            case COLLECT: return x.collect(a[0]);
            case RESTART: return x.restart(a[0]);
            case KIND: return x.kind(a[0], a[1]);
            case VALUE: return x.value(a[0], a[1]);
            case SAME: return x.same(a[0], a[1], a[2]);
            case PAIRS: return x.pairs(a[0]);
            default: return x.blobs();
        }
    }

    /** The runs would say little if they never came to the edges. */
    private static void refusalsWereMet() {
        int[][] wanted = {{BLOB, 2}, {PAIR, 2}, {SEND, 2}, {PART, 3}, {SEND, 3}, {RECEIVE, 3}};
        for (int[] pair : wanted) {
            if (refusals[pair[0]][pair[1]] < 1000) {
                Due.tell(NAMES[pair[0]] + " answered -" + pair[1] + " only " + refusals[pair[0]][pair[1]] + " times");
            }
        }
        for (int method = 0; method < METHODS; method++) {
            if (method != BLOBS && method != VALUE && refusals[method][1] < 100) {
                Due.tell(NAMES[method] + " answered BAD only " + refusals[method][1] + " times");
            }
        }
    }
}
