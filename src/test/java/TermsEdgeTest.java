import java.util.ArrayList;
import java.util.List;

/** A test of its own for each sentence of "What it is" and "Terms" that names a boundary case. */
public final class TermsEdgeTest {
    private static final int NIL = ProcessHeaps.NIL;
    private static final int NUMBER = ProcessHeaps.NUMBER;
    private static final int PAIR = ProcessHeaps.PAIR;
    private static final int BLOB = ProcessHeaps.BLOB;
    private static final int BAD = ProcessHeaps.BAD;
    private static final int NO_ROOM = ProcessHeaps.NO_ROOM;
    private static final int NOT_SO = ProcessHeaps.NOT_SO;

    private TermsEdgeTest() {
    }

    public static void main(String[] args) {
        callsUpToThe512th();
        numbersAreInts();
        partsNeverChange();
        pairsLiveInOneHeap();
        blobsLiveOutsideOfHeaps();
        blobsAreShared();
        idsFrom0To5();
        processes0To2();
        registers0To3();
        mailboxOfAtMost3();
        mailboxFirstInFirstOut();
        heapOfAtMost20();
        reachedFromEachPlace();
        reachedByHeadsAndTails();
        collectingRemovesAllUnreached();
        collectingOneProcess();
        unreachedStayOtherwise();
        roomWithoutCollecting();
        roomByCollecting();
        noRoomAfterCollecting();
        noRoomChangesNothingElse();
        keptByARegister();
        keptByAMailbox();
        keptByAPair();
        goneAsSoonAsNoneHoldsIt();
        goneByCollecting();
        neverLetGoIfHeldAfterwards();
        outOfRangeIsRefusedFirst();
        outOfRangeChangesNothing();
        Due.end();
    }

    private static void due(long want, long got) {
        Due.due(want, got);
    }

    private static void callsUpToThe512th() {
        Due.by("An object is used for at most 512 calls after it has been made");
        ProcessHeaps x = new ProcessHeaps();
        int count = 0;
        for (int call = 1; call <= 511; call++) {
            due(0, x.pair(2, 0, 1, 1));
            // dst still holds the pair before when a full heap is collected
            count = count == 20 ? 2 : count + 1;
        }
        due(count, x.pairs(2));
        ProcessHeaps y = new ProcessHeaps();
        for (int call = 1; call <= 512; call++) {
            due(0, y.blob(0, 3));
        }
        ProcessHeaps z = new ProcessHeaps();
        for (int round = 0; round < 128; round++) {
            due(0, z.number(0, 0, round));
            due(0, z.send(0, 0, 1));
            due(0, z.receive(1, 3));
            due(round, z.value(1, 3));
        }
    }

    private static void numbersAreInts() {
        Due.by("A term is NIL, a NUMBER (an int), a PAIR or a BLOB.");
        int[] ints = {Integer.MIN_VALUE, Integer.MIN_VALUE + 1, -32769, -4, -3, -2, -1, 0, 1, 2, 3, 4, 5, 6, 20,
            255, 256, 65535, 65536, Integer.MAX_VALUE - 1, Integer.MAX_VALUE};
        for (int number : ints) {
            ProcessHeaps x = new ProcessHeaps();
            due(0, x.number(0, 0, number));
            Steps.term(x, 0, 0, NUMBER, number);
            due(0, x.number(0, 1, number + 1));
            due(0, x.same(0, 0, 1));
            due(0, x.pair(0, 2, 0, 1));
            due(0, x.send(0, 2, 2));
            due(0, x.receive(2, 3));
            due(0, x.part(2, 0, 3, true));
            Steps.term(x, 2, 0, NUMBER, number);
            due(0, x.part(2, 1, 3, false));
            Steps.term(x, 2, 1, NUMBER, number + 1);
        }
    }

    private static void partsNeverChange() {
        Due.by("A pair has a head and a tail, which are terms and never change");
        ProcessHeaps x = new ProcessHeaps();
        due(0, x.number(0, 0, 11));
        due(0, x.blob(0, 1));
        due(0, x.pair(0, 2, 0, 1));
        partsAre11AndBlob0(x);
        // the registers that it was made of
        due(0, x.number(0, 0, 12));
        due(0, x.nil(0, 1));
        partsAre11AndBlob0(x);
        // the register that a part was taken to
        due(1, x.blob(0, 3));
        partsAre11AndBlob0(x);
        // pairs before it and behind it come and go
        Steps.litter(x, 0, 3, 19);
        due(0, x.pair(0, 3, 0, 0));
        due(2, x.pairs(0));
        partsAre11AndBlob0(x);
        due(1, x.collect(0));
        Steps.chain(x, 0, 3, 19);
        due(NO_ROOM, x.pair(0, 0, 0, 0));
        partsAre11AndBlob0(x);
        // the copy and the process that got it
        due(0, x.send(0, 2, 1));
        due(0, x.receive(1, 2));
        due(0, x.restart(1));
        partsAre11AndBlob0(x);
    }

    private static void partsAre11AndBlob0(ProcessHeaps x) {
        due(0, x.part(0, 3, 2, true));
        Steps.term(x, 0, 3, NUMBER, 11);
        due(0, x.part(0, 3, 2, false));
        Steps.term(x, 0, 3, BLOB, 0);
    }

    private static void pairsLiveInOneHeap() {
        Due.by("each pair lives in the heap of one process");
        ProcessHeaps x = new ProcessHeaps();
        Steps.chain(x, 1, 0, 3);
        due(0, x.pairs(0));
        due(3, x.pairs(1));
        due(0, x.pairs(2));
        due(0, x.send(1, 0, 2));
        due(3, x.pairs(1));
        due(3, x.pairs(2));
        // the pairs of the one don't need those of the other
        due(0, x.restart(1));
        due(3, x.collect(2));
        due(0, x.receive(2, 0));
        for (int i = 0; i < 3; i++) {
            due(0, x.part(2, 0, 0, true));
        }
        Steps.term(x, 2, 0, NIL, 0);
        due(0, x.pairs(1));
    }

    private static void blobsLiveOutsideOfHeaps() {
        Due.by("Blobs live outside of all heaps");
        ProcessHeaps x = new ProcessHeaps();
        for (int process = 0; process < 3; process++) {
            Steps.chain(x, process, 0, 20);
        }
        for (int id = 0; id < 6; id++) {
            due(id, x.blob(id / 2, 1 + id % 2));
            due(20, x.pairs(id / 2));
        }
        // a blob outlives the process that made it
        due(0, x.send(0, 1, 1));
        due(0, x.restart(0));
        due(5, x.blobs());
        due(0, x.receive(1, 3));
        Steps.term(x, 1, 3, BLOB, 0);
    }

    private static void blobsAreShared() {
        Due.by("Blobs live outside of all heaps and are shared");
        ProcessHeaps x = new ProcessHeaps();
        due(0, x.blob(0, 0));
        due(1, x.blob(0, 1));
        for (int to = 0; to < 3; to++) {
            due(0, x.send(0, 1, to));
            due(0, x.receive(to, 2));
            Steps.term(x, to, 2, BLOB, 1);
        }
        due(1, x.same(0, 1, 2));
        due(2, x.blobs());
        for (int process = 0; process < 3; process++) {
            due(2, x.blobs());
            due(0, x.nil(process, 2));
        }
        due(2, x.blobs());
        due(0, x.nil(0, 1));
        due(1, x.blobs());
    }

    private static void idsFrom0To5() {
        Due.by("a blob has an id from 0 to 5");
        ProcessHeaps x = new ProcessHeaps();
        Steps.sixBlobs(x);
        for (int id = 0; id < 6; id++) {
            Steps.term(x, id / 4, id % 4, BLOB, id);
        }
        due(NO_ROOM, x.blob(2, 0));
        due(6, x.blobs());
    }

    private static void processes0To2() {
        Due.by("PROCESSES 0, 1 and 2");
        ProcessHeaps x = new ProcessHeaps();
        for (int process = 0; process < 3; process++) {
            due(0, x.number(process, 0, process));
            due(0, x.move(process, 1, 0));
            due(process, x.blob(process, 2));
            due(0, x.pair(process, 3, 0, 1));
            due(1, x.pairs(process));
            due(0, x.send(process, 3, process));
            due(0, x.receive(process, 3));
            due(0, x.part(process, 3, 3, false));
            Steps.term(x, process, 3, NUMBER, process);
            due(1, x.same(process, 1, 3));
            due(0, x.nil(process, 1));
            due(2, x.pairs(process));
            due(0, x.collect(process));
        }
        for (int process = 0; process < 3; process++) {
            due(3 - process, x.blobs());
            due(0, x.restart(process));
        }
        for (int process : Steps.NO_PROCESS) {
            due(BAD, x.pairs(process));
            due(BAD, x.nil(process, 0));
        }
    }

    private static void registers0To3() {
        Due.by("have 4 REGISTERS each, 0 to 3, which hold terms (NIL at the start)");
        ProcessHeaps x = new ProcessHeaps();
        for (int i = 0; i < 12; i++) {
            Steps.term(x, i / 4, i % 4, NIL, 0);
        }
        for (int i = 0; i < 12; i++) {
            due(0, x.number(i / 4, i % 4, 100 + i));
        }
        for (int i = 0; i < 12; i++) {
            Steps.term(x, i / 4, i % 4, NUMBER, 100 + i);
        }
        for (int register : Steps.NO_REGISTER) {
            due(BAD, x.number(0, register, 1));
            due(BAD, x.kind(2, register));
        }
        for (int i = 0; i < 12; i++) {
            Steps.term(x, i / 4, i % 4, NUMBER, 100 + i);
        }
    }

    private static void mailboxOfAtMost3() {
        Due.by("a MAILBOX of at most 3 terms");
        for (int to = 0; to < 3; to++) {
            ProcessHeaps x = new ProcessHeaps();
            // NIL is a term like any other
            Steps.sendTimes(x, 1, 0, to, 3);
            due(NOT_SO, x.send(1, 0, to));
            due(NOT_SO, x.send(to, 0, to));
            // one out, one in
            due(0, x.receive(to, 0));
            due(0, x.send(2, 0, to));
            due(NOT_SO, x.send(2, 0, to));
            for (int i = 0; i < 3; i++) {
                due(0, x.receive(to, 0));
            }
            due(NOT_SO, x.receive(to, 0));
        }
        ProcessHeaps x = new ProcessHeaps();
        for (int to = 0; to < 3; to++) {
            Steps.sendTimes(x, 0, 0, to, 3);
        }
        for (int to = 0; to < 3; to++) {
            due(NOT_SO, x.send(0, 0, to));
        }
    }

    private static void mailboxFirstInFirstOut() {
        Due.by("a MAILBOX of at most 3 terms (first in, first out)");
        for (int waiting = 0; waiting < 3; waiting++) {
            ProcessHeaps x = new ProcessHeaps();
            for (int i = 1; i <= 40; i++) {
                due(0, x.number(i % 3, 0, i));
                due(0, x.send(i % 3, 0, 1));
                if (i > waiting) {
                    due(0, x.receive(1, 2));
                    Steps.term(x, 1, 2, NUMBER, i - waiting);
                }
            }
            for (int i = 41 - waiting; i <= 40; i++) {
                due(0, x.receive(1, 2));
                Steps.term(x, 1, 2, NUMBER, i);
            }
            due(NOT_SO, x.receive(1, 2));
        }
    }

    private static void heapOfAtMost20() {
        Due.by("a heap of at most 20 pairs");
        ProcessHeaps x = new ProcessHeaps();
        for (int process = 0; process < 3; process++) {
            for (int count = 1; count <= 20; count++) {
                due(0, x.pair(process, 0, 0, 1));
                due(count, x.pairs(process));
            }
            due(NO_ROOM, x.pair(process, 0, 0, 1));
            due(20, x.pairs(process));
        }
        for (int process = 0; process < 3; process++) {
            due(20, x.collect(process));
            due(NO_ROOM, x.pair(process, 2, 1, 1));
            due(NO_ROOM, x.send(1, 0, process));
        }
    }

    private static void reachedFromEachPlace() {
        Due.by("A process PLACE is a register or a place of its mailbox.");
        for (int register = 0; register < 4; register++) {
            ProcessHeaps x = new ProcessHeaps();
            Steps.litter(x, 1, register, 4);
            Steps.chain(x, 1, register, 5);
            due(9, x.pairs(1));
            due(5, x.collect(1));
            due(0, x.nil(1, register));
            due(0, x.collect(1));
        }
        for (int before = 0; before < 3; before++) {
            ProcessHeaps x = new ProcessHeaps();
            Steps.chain(x, 0, 0, 4);
            Steps.sendTimes(x, 0, 1, 2, before);
            due(0, x.send(0, 0, 2));
            Steps.litter(x, 2, 3, 2);
            due(6, x.pairs(2));
            due(4, x.collect(2));
            for (int i = 0; i < before; i++) {
                due(0, x.receive(2, 3));
                due(4, x.collect(2));
            }
            due(0, x.receive(2, 3));
            due(4, x.collect(2));
            due(0, x.nil(2, 3));
            due(0, x.collect(2));
        }
    }

    private static void reachedByHeadsAndTails() {
        Due.by("REACHED if it is found from the places of that process by going from pairs to their heads and tails");
        for (int way = 0; way < 3; way++) {
            ProcessHeaps x = new ProcessHeaps();
            for (int i = 0; i < 20; i++) {
                boolean byHead = way == 0 || way == 2 && i % 2 == 0;
                due(0, x.pair(0, 0, byHead ? 0 : 1, byHead ? 1 : 0));
            }
            due(20, x.collect(0));
            for (int i = 19; i >= 0; i--) {
                boolean byHead = way == 0 || way == 2 && i % 2 == 0;
                due(0, x.part(0, 0, 0, byHead));
                due(i, x.collect(0));
            }
        }
        // a pair that only a pair holds which is not reached itself
        ProcessHeaps x = new ProcessHeaps();
        Steps.chain(x, 0, 0, 1);
        due(0, x.pair(0, 1, 0, 0));
        due(0, x.pair(0, 2, 1, 0));
        due(0, x.nil(0, 1));
        due(0, x.nil(0, 2));
        due(1, x.collect(0));
        due(0, x.pair(0, 1, 0, 0));
        due(0, x.nil(0, 0));
        due(0, x.nil(0, 1));
        due(2, x.pairs(0));
        due(0, x.collect(0));
        // the places of another process don't count
        Steps.litter(x, 0, 0, 2);
        Steps.chain(x, 1, 0, 2);
        due(0, x.collect(0));
        due(2, x.collect(1));
    }

    private static void collectingRemovesAllUnreached() {
        Due.by("COLLECTING a process removes all pairs of its heap that are not reached.");
        for (int reached = 0; reached <= 20; reached++) {
            ProcessHeaps x = new ProcessHeaps();
            Steps.litter(x, 2, 1, (20 - reached) / 2);
            Steps.chain(x, 2, 0, reached);
            Steps.litter(x, 2, 1, 20 - reached - (20 - reached) / 2);
            due(20, x.pairs(2));
            due(reached, x.collect(2));
            due(reached, x.pairs(2));
            due(reached, x.collect(2));
        }
    }

    private static void collectingOneProcess() {
        Due.by("COLLECTING a process removes all pairs of its heap");
        for (int process = 0; process < 3; process++) {
            ProcessHeaps x = new ProcessHeaps();
            for (int each = 0; each < 3; each++) {
                Steps.litter(x, each, 0, 20);
            }
            due(0, x.collect(process));
            due(40, x.pairs(0) + x.pairs(1) + x.pairs(2));
            due(0, x.pairs(process));
        }
    }

    /** Process 0 has 20 pairs that nothing reaches, and they hold the blobs 0 and 1; process 1 has all kinds. */
    private static void full(ProcessHeaps x) {
        due(0, x.blob(0, 0));
        due(1, x.blob(0, 1));
        due(0, x.pair(0, 2, 0, 3));
        due(0, x.pair(0, 2, 3, 1));
        due(0, x.nil(0, 2));
        due(0, x.nil(0, 1));
        Steps.litter(x, 0, 0, 18);
        due(0, x.number(1, 0, 9));
        due(2, x.blob(1, 1));
        due(0, x.pair(1, 2, 0, 1));
        due(0, x.send(1, 1, 0));
        due(0, x.send(1, 0, 0));
    }

    private static void unreachedStayOtherwise() {
        Due.by("Pairs that are not reached otherwise stay until their process is collected.");
        List<View.Call> calls = List.of(
            x -> x.number(0, 0, 1), x -> x.move(0, 0, 1), x -> x.nil(0, 0), x -> x.send(0, 0, 0), x -> x.send(1, 0, 0),
            x -> x.send(0, 0, 1), x -> x.send(1, 2, 1), x -> x.send(1, 2, 2), x -> x.receive(0, 0),
            x -> x.part(1, 0, 2, true), x -> x.pair(1, 2, 2, 2), x -> x.restart(1), x -> x.restart(2),
            x -> x.collect(2), x -> x.value(0, 0), x -> x.kind(0, 0), x -> x.same(0, 0, 1) - 1,
            x -> x.pairs(0) - 20, x -> x.blobs() - 3, x -> x.collect(1) - 1, x -> x.blob(0, 0) - 3,
            x -> x.part(0, 0, 0, true) - NOT_SO, x -> x.receive(2, 0) - NOT_SO,
            x -> x.pair(0, 0, 0, 4) - BAD, x -> x.send(1, 2, 3) - BAD, x -> x.blob(0, 4) - BAD);
        for (View.Call call : calls) {
            ProcessHeaps x = new ProcessHeaps();
            full(x);
            due(0, call.on(x));
            leaveOnlyUnreachedOf0(x);
            due(20, x.pairs(0));
            due(2, x.blobs());
        }
        // refused for other reasons: the mailbox is full, all blobs are kept
        ProcessHeaps x = new ProcessHeaps();
        full(x);
        due(0, x.send(1, 0, 0));
        due(NOT_SO, x.send(1, 2, 0));
        due(20, x.pairs(0));
        due(3, x.blob(2, 0));
        due(4, x.blob(2, 1));
        due(5, x.blob(2, 2));
        due(NO_ROOM, x.blob(0, 0));
        due(20, x.pairs(0));
        due(6, x.blobs());
        // part of a reached pair, and room enough
        ProcessHeaps y = new ProcessHeaps();
        Steps.litter(y, 0, 0, 17);
        Steps.chain(y, 0, 0, 2);
        due(0, y.part(0, 0, 0, true));
        due(0, y.part(0, 0, 0, true));
        due(19, y.pairs(0));
        due(0, y.pair(0, 0, 0, 0));
        due(20, y.pairs(0));
    }

    private static void leaveOnlyUnreachedOf0(ProcessHeaps x) {
        due(0, x.restart(1));
        due(0, x.restart(2));
        for (int i = 0; i < 3; i++) {
            x.receive(0, 0);
        }
        for (int register = 0; register < 4; register++) {
            due(0, x.nil(0, register));
        }
    }

    private static void roomWithoutCollecting() {
        Due.by("MAKING ROOM for n pairs in a process means: if the process has more than 20 - n"
            + " pairs, it is collected.");
        for (int n = 0; n <= 20; n++) {
            ProcessHeaps x = new ProcessHeaps();
            Steps.chain(x, 1, 0, n);
            Steps.litter(x, 0, 0, 20 - n);
            due(0, x.send(1, 0, 0));
            due(20, x.pairs(0));
        }
        ProcessHeaps x = new ProcessHeaps();
        Steps.litter(x, 0, 0, 19);
        due(0, x.pair(0, 0, 0, 0));
        due(20, x.pairs(0));
    }

    private static void roomByCollecting() {
        Due.by("if the process has more than 20 - n pairs, it is collected");
        for (int n = 1; n <= 20; n++) {
            ProcessHeaps x = new ProcessHeaps();
            Steps.chain(x, 1, 0, n);
            Steps.litter(x, 0, 0, 21 - n);
            due(0, x.send(1, 0, 0));
            due(n, x.pairs(0));
            // all that are left are reached, and there is just room enough
            ProcessHeaps y = new ProcessHeaps();
            Steps.chain(y, 1, 0, n);
            Steps.chain(y, 0, 0, 20 - n);
            Steps.litter(y, 0, 1, n);
            due(20, y.pairs(0));
            due(0, y.send(1, 0, 0));
            due(20, y.pairs(0));
            due(20, y.collect(0));
        }
        ProcessHeaps x = new ProcessHeaps();
        Steps.litter(x, 0, 0, 20);
        due(0, x.pair(0, 0, 0, 0));
        due(1, x.pairs(0));
        ProcessHeaps y = new ProcessHeaps();
        Steps.chain(y, 0, 0, 19);
        Steps.litter(y, 0, 1, 1);
        due(0, y.pair(0, 1, 1, 1));
        due(20, y.pairs(0));
        due(20, y.collect(0));
    }

    private static void noRoomAfterCollecting() {
        Due.by("If it still has more than 20 - n pairs then, there is no room: the call answers NO_ROOM");
        for (int n = 1; n <= 20; n++) {
            ProcessHeaps x = new ProcessHeaps();
            Steps.chain(x, 1, 0, n);
            Steps.chain(x, 0, 0, 21 - n);
            Steps.litter(x, 0, 1, n - 1);
            due(20, x.pairs(0));
            due(NO_ROOM, x.send(1, 0, 0));
            due(21 - n, x.pairs(0));
            due(NOT_SO, x.receive(0, 0));
            due(n, x.pairs(1));
        }
        ProcessHeaps x = new ProcessHeaps();
        Steps.chain(x, 0, 0, 20);
        due(NO_ROOM, x.pair(0, 1, 1, 1));
        due(NO_ROOM, x.pair(0, 0, 1, 1));
        due(NO_ROOM, x.pair(0, 0, 0, 0));
    }

    /** Process 0 reaches 15 pairs and has 5 more, process 1 reaches 6 and has 3 more; blobs are all over. */
    private static void crowded(ProcessHeaps x) {
        due(0, x.blob(0, 0));
        due(0, x.pair(0, 0, 0, 0));
        due(1, x.blob(0, 0));
        Steps.litter(x, 0, 1, 4);
        due(2, x.blob(1, 3));
        due(0, x.pair(1, 3, 3, 3));
        Steps.litter(x, 1, 3, 2);
        due(2, x.pairs(1) - 1);
        due(3, x.blob(1, 1));
        due(0, x.pair(1, 0, 1, 2));
        due(0, x.send(1, 0, 0));
        Steps.chain(x, 0, 2, 14);
        Steps.chain(x, 1, 3, 5);
        due(0, x.number(0, 3, 33));
        due(20, x.pairs(0));
        due(9, x.pairs(1));
        due(4, x.blobs());
    }

    private static void noRoomChangesNothingElse() {
        Due.by("nothing else is changed but that the process has been collected");
        View.changesLike(TermsEdgeTest::crowded, NO_ROOM, x -> x.send(0, 2, 0), x -> x.collect(0));
        View.changesLike(x -> {
            crowded(x);
            due(0, x.pair(1, 3, 3, 3));
        }, NO_ROOM, x -> x.send(1, 3, 0), x -> x.collect(0));
        View.Run allReached = x -> {
            due(0, x.blob(1, 1));
            due(0, x.pair(1, 1, 1, 1));
            due(0, x.send(1, 1, 0));
            due(0, x.pair(1, 2, 1, 0));
            Steps.chain(x, 0, 0, 19);
            due(0, x.number(0, 2, -7));
        };
        View.changesNothing(allReached, NO_ROOM, x -> x.pair(0, 0, 2, 2));
        View.changesNothing(allReached, NO_ROOM, x -> x.pair(0, 2, 0, 2));
        View.changesNothing(allReached, NO_ROOM, x -> x.send(1, 1, 0));
        View.changesNothing(allReached, NO_ROOM, x -> x.send(0, 0, 1));
        View.changesNothing(allReached, NO_ROOM, x -> x.send(0, 0, 0));
    }

    private static void keptByARegister() {
        Due.by("A blob is KEPT as long as at least one place of a process ... holds it as register");
        for (int i = 0; i < 12; i++) {
            ProcessHeaps x = new ProcessHeaps();
            due(0, x.blob(i / 4, i % 4));
            due(1, x.blobs());
            due(1, x.blob((i + 1) % 12 / 4, (i + 1) % 4));
            due(0, x.nil(i / 4, i % 4));
            due(1, x.blobs());
        }
    }

    private static void keptByAMailbox() {
        Due.by("A blob is KEPT as long as at least one place of a process ... holds it as ... mailbox term");
        for (int to = 0; to < 3; to++) {
            for (int before = 0; before < 3; before++) {
                ProcessHeaps x = new ProcessHeaps();
                Steps.sendTimes(x, 1, 0, to, before);
                due(0, x.blob(1, 0));
                due(0, x.send(1, 0, to));
                due(0, x.nil(1, 0));
                due(1, x.blobs());
                for (int i = 0; i < before; i++) {
                    due(0, x.receive(to, 3));
                    due(1, x.blobs());
                }
                due(1, x.blob(1, 1));
                due(0, x.receive(to, 3));
                Steps.term(x, to, 3, BLOB, 0);
                due(0, x.nil(to, 3));
                due(1, x.blobs());
            }
        }
    }

    private static void keptByAPair() {
        Due.by("or at least one pair in a heap (reached or not), holds it as ... head or tail");
        for (int before = 0; before < 20; before++) {
            for (int place = 0; place < 2; place++) {
                ProcessHeaps x = new ProcessHeaps();
                int process = before % 3;
                Steps.litter(x, process, 3, before);
                due(0, x.blob(process, 0));
                due(0, x.pair(process, 1, place == 0 ? 0 : 2, place == 0 ? 2 : 0));
                due(0, x.nil(process, 0));
                due(1, x.blobs());
                due(1, x.collect(process));
                due(1, x.blobs());
                due(0, x.nil(process, 1));
                due(1, x.blobs());
                due(1, x.blob(process, 2));
                due(0, x.collect(process));
                due(1, x.blobs());
                due(0, x.blob(process, 3));
            }
        }
    }

    /** The register 0 of process 0 alone holds the blob 0; the registers 1 and 2 hold a pair and a number. */
    private static ProcessHeaps oneHolder() {
        ProcessHeaps x = new ProcessHeaps();
        due(0, x.blob(0, 0));
        due(1, x.blob(1, 0));
        due(0, x.number(0, 2, 5));
        due(0, x.pair(0, 1, 2, 2));
        due(0, x.send(0, 2, 0));
        return x;
    }

    private static void goneAsSoonAsNoneHoldsIt() {
        Due.by("As soon as none holds it, it is gone, and its id is free again.");
        List<View.Call> calls = List.of(
            x -> x.number(0, 0, 0), x -> x.nil(0, 0), x -> x.move(0, 0, 3), x -> x.move(0, 0, 2), x -> x.move(0, 0, 1),
            x -> x.pair(0, 0, 2, 3), x -> x.part(0, 0, 1, true), x -> x.part(0, 0, 1, false), x -> x.receive(0, 0),
            x -> x.restart(0));
        for (View.Call call : calls) {
            ProcessHeaps x = oneHolder();
            due(2, x.blobs());
            due(0, call.on(x));
            due(1, x.blobs());
            due(0, x.blob(2, 3));
            due(2, x.blob(2, 2));
        }
        // blob lets it go too, and takes it anew
        ProcessHeaps x = oneHolder();
        due(0, x.blob(0, 0));
        due(2, x.blobs());
        // not before the last of two holders
        due(0, x.move(0, 3, 0));
        due(0, x.nil(0, 0));
        due(2, x.blobs());
        due(2, x.blob(2, 0));
        due(0, x.nil(0, 3));
        due(2, x.blobs());
        due(0, x.blob(2, 1));
    }

    /** Pairs of process 0 that nothing reaches alone hold the blobs 0 and 1; it reaches that many more. */
    private static ProcessHeaps heldByUnreached(int more) {
        ProcessHeaps x = new ProcessHeaps();
        due(0, x.blob(0, 0));
        due(0, x.pair(0, 1, 0, 2));
        due(1, x.blob(0, 0));
        due(0, x.pair(0, 1, 2, 0));
        due(0, x.nil(0, 0));
        due(0, x.nil(0, 1));
        Steps.chain(x, 0, 0, more);
        Steps.chain(x, 1, 0, 3);
        due(2, x.blobs());
        return x;
    }

    private static void goneByCollecting() {
        Due.by("As soon as none holds it, it is gone");
        ProcessHeaps x = heldByUnreached(3);
        due(3, x.collect(0));
        due(0, x.blobs());
        due(0, x.blob(0, 1));
        x = heldByUnreached(18);
        due(0, x.pair(0, 1, 1, 1));
        due(0, x.blobs());
        x = heldByUnreached(16);
        due(0, x.send(1, 0, 0));
        due(0, x.blobs());
        x = heldByUnreached(18);
        due(NO_ROOM, x.send(1, 0, 0));
        due(0, x.blobs());
        due(0, x.blob(2, 0));
        due(1, x.blob(2, 1));
        x = heldByUnreached(3);
        due(0, x.restart(0));
        due(0, x.blobs());
        // collecting another process lets nothing go
        x = heldByUnreached(3);
        due(3, x.collect(1));
        due(0, x.restart(1));
        due(2, x.blobs());
    }

    private static void neverLetGoIfHeldAfterwards() {
        Due.by("A call that takes a term from one place and puts it to another never lets a blob go"
            + " that is held afterwards.");
        View.changesNothing(x -> Steps.sixBlobs(x), 0, x -> x.move(1, 1, 1));
        ProcessHeaps x = new ProcessHeaps();
        due(0, x.blob(0, 0));
        due(1, x.blob(0, 1));
        // the mailbox alone holds it
        due(0, x.send(0, 1, 0));
        due(0, x.nil(0, 1));
        due(0, x.receive(0, 1));
        Steps.term(x, 0, 1, BLOB, 1);
        due(2, x.blobs());
        // dst holds the same blob, or another one
        due(0, x.send(0, 1, 0));
        due(0, x.receive(0, 1));
        due(2, x.blobs());
        due(0, x.send(0, 1, 0));
        due(0, x.nil(0, 1));
        due(0, x.receive(0, 0));
        Steps.term(x, 0, 0, BLOB, 1);
        due(1, x.blobs());
        // dst is the register that the term comes from
        due(0, x.pair(0, 0, 0, 0));
        due(1, x.blobs());
        due(0, x.part(0, 0, 0, true));
        Steps.term(x, 0, 0, BLOB, 1);
        due(0, x.collect(0));
        due(1, x.blobs());
        due(0, x.pair(0, 0, 3, 0));
        due(0, x.part(0, 0, 0, false));
        due(0, x.collect(0));
        due(1, x.blobs());
        due(0, x.send(0, 0, 2));
        due(0, x.restart(0));
        due(1, x.blobs());
        due(0, x.receive(2, 2));
        Steps.term(x, 2, 2, BLOB, 1);
        due(0, x.blob(2, 3));
    }

    private static List<View.Call> wrongProcess(int p) {
        return List.of(
            x -> x.number(p, 0, 1), x -> x.move(p, 0, 1), x -> x.nil(p, 0), x -> x.blob(p, 0), x -> x.pair(p, 0, 1, 2),
            x -> x.part(p, 0, 1, true), x -> x.part(p, 0, 1, false), x -> x.send(p, 0, 1), x -> x.send(0, 0, p),
            x -> x.send(p, 0, p), x -> x.receive(p, 0), x -> x.collect(p), x -> x.restart(p), x -> x.kind(p, 0),
            x -> x.same(p, 0, 1), x -> x.same(p, 0, 0), x -> x.pairs(p), x -> x.value(p, 0) + BAD);
    }

    private static List<View.Call> wrongRegister(int p, int r) {
        return List.of(
            x -> x.number(p, r, 1), x -> x.move(p, r, 1), x -> x.move(p, 1, r), x -> x.move(p, r, r), x -> x.nil(p, r),
            x -> x.blob(p, r), x -> x.pair(p, r, 1, 2), x -> x.pair(p, 1, r, 2), x -> x.pair(p, 1, 2, r),
            x -> x.part(p, r, 0, true), x -> x.part(p, 1, r, true), x -> x.part(p, r, 0, false),
            x -> x.part(p, 1, r, false), x -> x.send(p, r, 0), x -> x.send(p, r, 1), x -> x.receive(p, r),
            x -> x.kind(p, r), x -> x.same(p, r, 0), x -> x.same(p, 0, r), x -> x.same(p, r, r),
            x -> x.value(p, r) + BAD);
    }

    private static List<View.Call> outOfRange() {
        List<View.Call> calls = new ArrayList<>();
        for (int wrong : Steps.NO_PROCESS) {
            calls.addAll(wrongProcess(wrong));
        }
        for (int wrong : Steps.NO_REGISTER) {
            for (int process = 0; process < 3; process++) {
                calls.addAll(wrongRegister(process, wrong));
            }
            calls.addAll(wrongRegister(wrong, wrong == 7 ? 4 : wrong));
        }
        return calls;
    }

    private static void outOfRangeIsRefusedFirst() {
        Due.by("Process and register numbers out of range are refused first");
        ProcessHeaps x = new ProcessHeaps();
        Steps.chain(x, 0, 0, 20);
        Steps.sendTimes(x, 0, 1, 0, 3);
        for (int i = 0; i < 6; i++) {
            due(i, x.blob(1 + i / 4, i % 4));
        }
        // each would be NO_ROOM or NOT_SO
        due(BAD, x.pair(0, 4, 0, 0));
        due(BAD, x.pair(0, 0, 4, 0));
        due(BAD, x.pair(0, 0, 0, 4));
        due(BAD, x.pair(-1, 0, 0, 0));
        due(BAD, x.blob(0, 4));
        due(BAD, x.blob(0, -1));
        due(BAD, x.blob(3, 0));
        due(BAD, x.part(0, 4, 1, true));
        due(BAD, x.part(0, -1, 1, false));
        due(BAD, x.send(0, 4, 0));
        due(BAD, x.send(3, 0, 0));
        due(BAD, x.send(-1, 0, 0));
        due(BAD, x.receive(1, 4));
        due(BAD, x.receive(2, -1));
        due(BAD, x.receive(3, 0));
    }

    private static void outOfRangeChangesNothing() {
        Due.by("the call answers BAD and changes nothing");
        List<View.Call> calls = outOfRange();
        View.changeNothing(x -> { }, BAD, calls);
        View.changeNothing(TermsEdgeTest::full, BAD, calls);
        View.changeNothing(TermsEdgeTest::crowded, BAD, calls);
        View.changeNothing(x -> {
            full(x);
            due(0, x.send(1, 2, 2));
            due(0, x.send(1, 1, 0));
            due(0, x.send(1, 2, 1));
            due(3, x.blob(2, 0));
            due(4, x.blob(2, 1));
            due(5, x.blob(2, 2));
        }, BAD, calls);
    }
}
