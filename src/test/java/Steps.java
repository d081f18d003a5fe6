/** Runs of calls that several tests begin with or look back by; each answer is compared with the one due. */
final class Steps {
    /** Next to what is allowed, at the ends of int, and such as wrap round to something small if multiplied. */
    static final int[] NO_PROCESS = {-1, 3, 4, 613566757, 1 << 30, Integer.MIN_VALUE, Integer.MAX_VALUE};
    static final int[] NO_REGISTER = {-1, 4, 5, 7, 1 << 30, Integer.MIN_VALUE, Integer.MAX_VALUE};

    private Steps() {
    }

    static void term(ProcessHeaps x, int process, int register, int kind, int value) {
        Due.due(kind, x.kind(process, register));
        Due.due(value, x.value(process, register));
    }

    /** Makes the register a chain of that many pairs, each head and tail of the next. */
    static void chain(ProcessHeaps x, int process, int register, int length) {
        Due.due(0, x.nil(process, register));
        for (int i = 0; i < length; i++) {
            Due.due(0, x.pair(process, register, register, register));
        }
    }

    /** Makes that many pairs that nothing reaches; uses the register, which becomes NIL. */
    static void litter(ProcessHeaps x, int process, int register, int count) {
        for (int i = 0; i < count; i++) {
            Due.due(0, x.nil(process, register));
            Due.due(0, x.pair(process, register, register, register));
        }
        Due.due(0, x.nil(process, register));
    }

    /** Sends the term in the register that many times. */
    static void sendTimes(ProcessHeaps x, int process, int src, int to, int times) {
        for (int i = 0; i < times; i++) {
            Due.due(0, x.send(process, src, to));
        }
    }

    /** Six blobs in six registers: the ids 0 to 3 in process 0, 4 and 5 in process 1. */
    static void sixBlobs(ProcessHeaps x) {
        for (int id = 0; id < 6; id++) {
            Due.due(id, x.blob(id / 4, id % 4));
        }
    }

    /** The places and the heap of the process hold nothing. */
    static void empty(ProcessHeaps x, int process) {
        for (int register = 0; register < 4; register++) {
            term(x, process, register, ProcessHeaps.NIL, 0);
        }
        Due.due(0, x.pairs(process));
        Due.due(ProcessHeaps.NOT_SO, x.receive(process, 0));
    }
}
