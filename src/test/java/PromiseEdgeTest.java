import java.util.List;

/** A test of its own for each sentence of the promises 1 to 16 that names a boundary case. */
public final class PromiseEdgeTest {
    private static final int NIL = ProcessHeaps.NIL;
    private static final int NUMBER = ProcessHeaps.NUMBER;
    private static final int PAIR = ProcessHeaps.PAIR;
    private static final int BLOB = ProcessHeaps.BLOB;
    private static final int BAD = ProcessHeaps.BAD;
    private static final int NO_ROOM = ProcessHeaps.NO_ROOM;
    private static final int NOT_SO = ProcessHeaps.NOT_SO;

    private PromiseEdgeTest() {
    }

    public static void main(String[] args) {
        newIsEmpty();
        newHasAllRoom();
        numberReplacesAnything();
        numberAnswers0();
        moveOfEachKind();
        moveToItself();
        nilOfEachKind();
        blobLeastFreeId();
        blobLetsGoFirst();
        blobDoesNotLetGoWhatOthersHold();
        blobNoRoom();
        pairMakesRoomFirst();
        pairOfItsOwnRegister();
        pairNoRoom();
        partOfItsOwnRegister();
        partOfNoPair();
        sendOutOfRange();
        sendToTheSame();
        sendToAFullMailbox();
        sendCountsDifferentPairs();
        sendWithoutPairs();
        sendItselfIncluded();
        sendCopiesOnce();
        sendSameNumbersAndBlobs();
        sendToTheEnd();
        sendNoRoom();
        receiveTheOldest();
        receiveTakesOut();
        receiveOfAnEmptyMailbox();
        collectAnswersWhatIsLeft();
        restartEmptiesAll();
        restartOfOne();
        restartOfAnEmptyOne();
        kindOfEach();
        valueOfNilAndPair();
        valueRefused();
        sameOfEach();
        sameAfterChanges();
        pairsFrom0To20();
        blobsFrom0To6();
        askingChangesNothing();
        Due.end();
    }

    private static void due(long want, long got) {
        Due.due(want, got);
    }

    /** The registers 0 to 3 of the process hold NIL, the number 2, a pair and a blob. */
    private static void eachKind(ProcessHeaps x, int process) {
        due(0, x.nil(process, 0));
        due(0, x.number(process, 1, 2));
        due(0, x.pair(process, 2, 0, 1));
        due(0, x.blob(process, 3));
    }

    // Promise 1

    private static void newIsEmpty() {
        Due.by("All registers NIL, all mailboxes and heaps empty, no blob.");
        ProcessHeaps before = new ProcessHeaps();
        eachKind(before, 1);
        due(0, before.send(1, 2, 1));
        ProcessHeaps x = new ProcessHeaps();
        due(0, x.blobs());
        for (int process = 0; process < 3; process++) {
            Steps.empty(x, process);
        }
        due(2, before.pairs(1));
        due(1, before.blobs());
    }

    private static void newHasAllRoom() {
        Due.by("all mailboxes and heaps empty, no blob");
        ProcessHeaps x = new ProcessHeaps();
        for (int process = 0; process < 3; process++) {
            Steps.sendTimes(x, process, 0, process, 3);
            Steps.chain(x, process, 1, 20);
        }
        for (int id = 0; id < 6; id++) {
            due(id, x.blob(id / 2, 2 + id % 2));
        }
    }

    // Promise 2

    private static void numberReplacesAnything() {
        Due.by("The register dst becomes the number value.");
        for (int dst = 0; dst < 4; dst++) {
            ProcessHeaps x = new ProcessHeaps();
            eachKind(x, 1);
            due(0, x.number(1, dst, -9));
            int[] kinds = {NIL, NUMBER, PAIR, BLOB};
            kinds[dst] = NUMBER;
            for (int register = 0; register < 4; register++) {
                due(kinds[register], x.kind(1, register));
            }
            due(-9, x.value(1, dst));
            due(1, x.pairs(1));
            due(dst == 3 ? 0 : 1, x.blobs());
        }
    }

    private static void numberAnswers0() {
        Due.by("Answers 0 or BAD.");
        ProcessHeaps x = new ProcessHeaps();
        for (int value : new int[] {BAD, NO_ROOM, NOT_SO, 0, 1, Integer.MIN_VALUE, Integer.MAX_VALUE}) {
            due(0, x.number(2, 3, value));
            Steps.term(x, 2, 3, NUMBER, value);
            due(BAD, x.number(3, 3, value + 1));
            due(BAD, x.number(2, 4, value + 1));
            due(BAD, x.number(-1, 0, value + 1));
            due(BAD, x.number(2, -1, value + 1));
            Steps.term(x, 2, 3, NUMBER, value);
        }
    }

    // Promise 3

    private static void moveOfEachKind() {
        Due.by("The register dst becomes what the register src is (NIL, the same number, the same"
            + " pair, the same blob).");
        int[] kinds = {NIL, NUMBER, PAIR, BLOB};
        int[] values = {0, 2, 0, 0};
        for (int src = 0; src < 4; src++) {
            for (int dst = 0; dst < 4; dst++) {
                ProcessHeaps x = new ProcessHeaps();
                eachKind(x, 2);
                due(0, x.move(2, dst, src));
                Steps.term(x, 2, dst, kinds[src], values[src]);
                Steps.term(x, 2, src, kinds[src], values[src]);
                due(1, x.same(2, src, dst));
                // nothing is copied, and what dst held stays in the heap
                due(1, x.pairs(2));
                due(dst == 3 && src != 3 ? 0 : 1, x.blobs());
            }
        }
    }

    private static void moveToItself() {
        Due.by("The register dst becomes what the register src is");
        for (int register = 0; register < 4; register++) {
            int both = register;
            View.changesNothing(x -> eachKind(x, 0), 0, x -> x.move(0, both, both));
        }
    }

    // Promise 4

    private static void nilOfEachKind() {
        Due.by("The register dst becomes NIL.");
        View.changesNothing(x -> eachKind(x, 0), 0, x -> x.nil(0, 0));
        for (int dst = 0; dst < 4; dst++) {
            ProcessHeaps x = new ProcessHeaps();
            eachKind(x, 0);
            due(0, x.nil(0, dst));
            Steps.term(x, 0, dst, NIL, 0);
            due(1, x.same(0, dst, 0));
            due(1, x.pairs(0));
            due(dst == 3 ? 0 : 1, x.blobs());
        }
    }

    // Promise 5

    private static void blobLeastFreeId() {
        Due.by("Makes a new blob with the least free id, and the register dst becomes it.");
        for (int kept = 0; kept < 64; kept++) {
            ProcessHeaps x = new ProcessHeaps();
            Steps.sixBlobs(x);
            for (int id = 0; id < 6; id++) {
                if ((kept >> id & 1) == 0) {
                    due(0, x.nil(id / 4, id % 4));
                }
            }
            due(Integer.bitCount(kept), x.blobs());
            int least = Integer.numberOfTrailingZeros(~kept);
            due(least < 6 ? least : NO_ROOM, x.blob(2, 0));
            Steps.term(x, 2, 0, least < 6 ? BLOB : NIL, least < 6 ? least : 0);
        }
    }

    private static void blobLetsGoFirst() {
        Due.by("What dst held before is let go first: if it was the last to hold a blob, that id is free then.");
        for (int id = 0; id < 6; id++) {
            ProcessHeaps x = new ProcessHeaps();
            Steps.sixBlobs(x);
            // the only free one is its own
            due(id, x.blob(id / 4, id % 4));
            due(6, x.blobs());
            Steps.term(x, id / 4, id % 4, BLOB, id);
            // one below or above it is free too
            int other = (id + 2) % 6;
            due(0, x.nil(other / 4, other % 4));
            due(Math.min(id, other), x.blob(id / 4, id % 4));
            due(5, x.blobs());
        }
    }

    private static void blobDoesNotLetGoWhatOthersHold() {
        Due.by("if it was the last to hold a blob");
        List<View.Call> holders = List.of(
            x -> x.move(0, 1, 0), x -> x.send(0, 0, 0), x -> x.send(0, 0, 1), x -> x.pair(0, 1, 0, 2),
            x -> x.pair(0, 1, 2, 0), x -> x.pair(0, 1, 0, 0) + x.nil(0, 1));
        for (View.Call holder : holders) {
            ProcessHeaps x = new ProcessHeaps();
            due(0, x.blob(0, 0));
            due(0, holder.on(x));
            due(1, x.blob(0, 0));
            due(2, x.blobs());
            Steps.term(x, 0, 0, BLOB, 1);
        }
        // a pair in dst isn't removed, and so the blobs that it holds are kept
        ProcessHeaps x = new ProcessHeaps();
        due(0, x.blob(0, 0));
        due(0, x.pair(0, 0, 0, 0));
        due(1, x.blob(0, 0));
        due(1, x.pairs(0));
    }

    private static void blobNoRoom() {
        Due.by("NO_ROOM, and changes nothing, if 6 blobs would still be kept after dst has let go");
        View.Run all = x -> {
            Steps.sixBlobs(x);
            due(0, x.number(1, 2, 8));
            due(0, x.pair(1, 3, 2, 2));
            Steps.litter(x, 2, 0, 3);
        };
        List<View.Call> calls = List.of(x -> x.blob(1, 2), x -> x.blob(1, 3), x -> x.blob(2, 0), x -> x.blob(2, 3));
        View.changeNothing(all, NO_ROOM, calls);
        // dst holds a blob that something else holds too
        List<View.Call> holders = List.of(
            x -> x.move(1, 2, 0), x -> x.send(1, 0, 1), x -> x.send(1, 0, 2), x -> x.pair(1, 3, 0, 2),
            x -> x.pair(1, 3, 2, 0), x -> x.pair(1, 3, 0, 0) + x.nil(1, 3));
        for (View.Call holder : holders) {
            View.changesNothing(x -> {
                all.on(x);
                due(0, holder.on(x));
            }, NO_ROOM, x -> x.blob(1, 0));
        }
        // dst holds the pair that alone holds a blob
        View.changesNothing(x -> {
            all.on(x);
            due(0, x.pair(1, 0, 0, 0));
        }, NO_ROOM, x -> x.blob(1, 0));
        // five are no six
        ProcessHeaps x = new ProcessHeaps();
        all.on(x);
        due(0, x.nil(0, 3));
        due(3, x.blob(2, 2));
        due(NO_ROOM, x.blob(2, 3));
    }

    // Promise 6

    private static void pairMakesRoomFirst() {
        Due.by("Makes room for 1 pair, then makes a pair of the terms in the registers head and tail");
        // a heap that is full of what nothing reaches, but for what the registers hold
        ProcessHeaps x = new ProcessHeaps();
        due(0, x.blob(0, 2));
        due(0, x.pair(0, 0, 2, 2));
        Steps.litter(x, 0, 3, 9);
        due(0, x.number(0, 2, 4));
        due(0, x.pair(0, 1, 2, 2));
        Steps.litter(x, 0, 3, 9);
        due(20, x.pairs(0));
        due(0, x.pair(0, 3, 0, 1));
        due(3, x.pairs(0));
        due(0, x.part(0, 2, 3, true));
        due(1, x.same(0, 0, 2));
        due(0, x.part(0, 2, 3, false));
        due(1, x.same(0, 1, 2));
        due(0, x.part(0, 2, 0, false));
        Steps.term(x, 0, 2, BLOB, 0);
        due(0, x.part(0, 2, 1, true));
        Steps.term(x, 0, 2, NUMBER, 4);
        // dst holds what it held while room is made
        Steps.litter(x, 0, 2, 17);
        due(0, x.pair(0, 3, 2, 2));
        due(4, x.pairs(0));
        due(3, x.collect(0));
    }

    private static void pairOfItsOwnRegister() {
        Due.by("and the register dst becomes it");
        for (int which = 0; which < 3; which++) {
            ProcessHeaps x = new ProcessHeaps();
            due(0, x.number(1, 0, 10));
            due(0, x.number(1, 1, 11));
            due(0, x.pair(1, 0, which == 1 ? 1 : 0, which == 0 ? 1 : 0));
            due(0, x.part(1, 2, 0, true));
            Steps.term(x, 1, 2, NUMBER, which == 1 ? 11 : 10);
            due(0, x.part(1, 2, 0, false));
            Steps.term(x, 1, 2, NUMBER, which == 0 ? 11 : 10);
            Steps.term(x, 1, 1, NUMBER, 11);
        }
    }

    private static void pairNoRoom() {
        Due.by("Answers 0, BAD or NO_ROOM.");
        View.Run full = x -> {
            Steps.chain(x, 2, 0, 20);
            due(0, x.blob(2, 1));
        };
        List<View.Call> calls = List.of(
            x -> x.pair(2, 0, 0, 0), x -> x.pair(2, 1, 0, 1), x -> x.pair(2, 1, 1, 1), x -> x.pair(2, 3, 2, 2));
        View.changeNothing(full, NO_ROOM, calls);
        // one pair less, and there is room
        for (View.Call call : calls) {
            ProcessHeaps x = new ProcessHeaps();
            full.on(x);
            due(0, x.part(2, 0, 0, true));
            due(20, x.pairs(2));
            due(0, call.on(x));
            due(20, x.pairs(2));
        }
    }

    // Promise 7

    private static void partOfItsOwnRegister() {
        Due.by("The register dst becomes the head of the pair in the register src (first is true) or"
            + " its tail (first is false).");
        for (int dst = 0; dst < 4; dst++) {
            for (int first = 0; first < 2; first++) {
                ProcessHeaps x = new ProcessHeaps();
                due(0, x.number(0, 0, 70));
                due(0, x.number(0, 1, 71));
                due(0, x.pair(0, 2, 1, 0));
                due(0, x.part(0, dst, 2, first == 1));
                Steps.term(x, 0, dst, NUMBER, 70 + first);
                due(dst == 2 ? NUMBER : PAIR, x.kind(0, 2));
                due(1, x.pairs(0));
            }
        }
    }

    private static void partOfNoPair() {
        Due.by("NOT_SO, and changes nothing, if src holds no pair");
        for (int src = 0; src < 4; src++) {
            int from = src;
            for (int dst = 0; dst < 4 && src != 2; dst++) {
                int into = dst;
                View.changesNothing(x -> eachKind(x, 1), NOT_SO, x -> x.part(1, into, from, true));
                View.changesNothing(x -> eachKind(x, 1), NOT_SO, x -> x.part(1, into, from, false));
            }
        }
        // a pair in the same register of another process is none of this one
        View.changesNothing(x -> eachKind(x, 1), NOT_SO, x -> x.part(0, 0, 2, true));
    }

    // Promise 8

    private static void sendOutOfRange() {
        Due.by("Answers BAD if process, src or to is out of range");
        ProcessHeaps x = new ProcessHeaps();
        eachKind(x, 0);
        for (int wrong : Steps.NO_PROCESS) {
            due(BAD, x.send(wrong, 2, 1));
            due(BAD, x.send(0, 2, wrong));
        }
        for (int wrong : Steps.NO_REGISTER) {
            due(BAD, x.send(0, wrong, 1));
        }
        // 3 is a register, but no process
        due(0, x.send(0, 3, 2));
        due(BAD, x.send(0, 2, 3));
        // also if the mailbox is full
        Steps.sendTimes(x, 0, 0, 1, 3);
        due(BAD, x.send(0, 4, 1));
        due(BAD, x.send(3, 0, 1));
        due(NOT_SO, x.send(0, 0, 1));
    }

    private static void sendToTheSame() {
        Due.by("the process to (which may be the same one)");
        for (int process = 0; process < 3; process++) {
            ProcessHeaps x = new ProcessHeaps();
            Steps.chain(x, process, 0, 10);
            due(0, x.send(process, 0, process));
            due(20, x.pairs(process));
            due(20, x.collect(process));
            due(0, x.receive(process, 1));
            due(0, x.same(process, 0, 1));
            for (int i = 0; i < 10; i++) {
                due(0, x.part(process, 0, 0, true));
                due(0, x.part(process, 1, 1, false));
                due(i == 9 ? 1 : 0, x.same(process, 0, 1));
            }
            due(0, x.collect(process));
        }
        // one pair more than half of the heap
        View.Run eleven = x -> {
            Steps.litter(x, 1, 1, 9);
            Steps.chain(x, 1, 0, 11);
        };
        View.changesLike(eleven, NO_ROOM, x -> x.send(1, 0, 1), x -> x.collect(1));
        // what is sent is reached while room is made for its copy
        ProcessHeaps x = new ProcessHeaps();
        Steps.litter(x, 1, 1, 10);
        Steps.chain(x, 1, 0, 10);
        due(0, x.send(1, 0, 1));
        due(20, x.pairs(1));
        due(20, x.collect(1));
    }

    private static void sendToAFullMailbox() {
        Due.by("NOT_SO, and changes nothing, if the mailbox of to holds 3 terms");
        for (int process = 0; process < 3; process++) {
            int from = process;
            View.Run full = x -> {
                eachKind(x, from);
                Steps.litter(x, 1, 0, 18);
                Steps.sendTimes(x, from, 3, 1, 3);
            };
            List<View.Call> calls = List.of(
                x -> x.send(from, 0, 1), x -> x.send(from, 1, 1), x -> x.send(from, 2, 1), x -> x.send(from, 3, 1));
            View.changeNothing(full, NOT_SO, calls);
        }
        // no room either: the mailbox is looked at first, and nothing is collected
        View.Run noRoom = x -> {
            Steps.chain(x, 0, 0, 15);
            Steps.litter(x, 0, 1, 5);
            Steps.sendTimes(x, 1, 0, 0, 3);
            Steps.chain(x, 1, 0, 6);
        };
        View.changesNothing(noRoom, NOT_SO, x -> x.send(1, 0, 0));
        View.changesNothing(noRoom, NOT_SO, x -> x.send(0, 0, 0));
        // two are no three, and the others' mailboxes don't count
        ProcessHeaps x = new ProcessHeaps();
        Steps.sendTimes(x, 0, 0, 0, 3);
        Steps.sendTimes(x, 0, 0, 1, 2);
        due(NOT_SO, x.send(0, 0, 0));
        due(0, x.send(0, 0, 1));
        due(NOT_SO, x.send(0, 0, 1));
        due(0, x.send(0, 0, 2));
    }

    private static void sendCountsDifferentPairs() {
        Due.by("the number of different pairs that are found from it by heads and tails");
        // 20 pairs, which can be gone through in a million ways, need a heap for themselves
        ProcessHeaps x = new ProcessHeaps();
        Steps.chain(x, 0, 0, 20);
        Steps.litter(x, 1, 0, 1);
        due(0, x.send(0, 0, 1));
        due(20, x.pairs(1));
        // two pairs of the same parts are two, the same pair twice is one
        ProcessHeaps y = new ProcessHeaps();
        due(0, y.pair(0, 0, 3, 3));
        due(0, y.pair(0, 1, 3, 3));
        due(0, y.pair(0, 2, 0, 1));
        due(0, y.send(0, 2, 1));
        due(3, y.pairs(1));
        due(0, y.pair(0, 2, 0, 0));
        due(0, y.send(0, 2, 2));
        due(2, y.pairs(2));
        // pairs that hold it, or that are only near it, don't count
        due(0, y.restart(2));
        due(0, y.send(0, 0, 2));
        due(1, y.pairs(2));
        due(4, y.pairs(0));
    }

    private static void sendWithoutPairs() {
        Due.by("as many pairs as the term has");
        for (int src = 0; src < 4; src++) {
            if (src != 2) {
                ProcessHeaps x = new ProcessHeaps();
                eachKind(x, 0);
                Steps.litter(x, 1, 0, 2);
                Steps.chain(x, 1, 0, 18);
                due(0, x.send(0, src, 1));
                // room for none is there, so nothing is collected
                due(20, x.pairs(1));
                due(18, x.collect(1));
                due(0, x.receive(1, 3));
                Steps.term(x, 1, 3, x.kind(0, src), x.value(0, src));
                due(1, x.pairs(0));
            }
        }
    }

    private static void sendItselfIncluded() {
        Due.by("itself included");
        ProcessHeaps x = new ProcessHeaps();
        due(0, x.pair(0, 0, 1, 1));
        Steps.chain(x, 1, 0, 19);
        due(0, x.send(0, 0, 1));
        due(20, x.pairs(1));
        due(20, x.collect(1));
        due(NO_ROOM, x.send(0, 0, 1));
        due(0, x.receive(1, 1));
        due(PAIR, x.kind(1, 1));
        due(NOT_SO, x.receive(1, 1));
    }

    private static void sendCopiesOnce() {
        Due.by("every one of these pairs is copied once into the heap of to; the copies hold each"
            + " other as the pairs do");
        ProcessHeaps x = new ProcessHeaps();
        due(0, x.number(0, 3, 1));
        due(0, x.pair(0, 0, 3, 3));
        due(0, x.number(0, 3, 2));
        due(0, x.pair(0, 1, 3, 0));
        due(0, x.number(0, 3, 3));
        due(0, x.pair(0, 2, 0, 3));
        due(0, x.pair(0, 3, 1, 2));
        // 3 holds 1 and 2, both hold 0
        for (int to = 0; to < 3; to++) {
            due(0, x.send(0, 3, to));
            due(to == 0 ? 8 : 4, x.pairs(to));
        }
        due(0, x.restart(1));
        due(0, x.send(0, 3, 1));
        for (int to = 1; to < 3; to++) {
            due(0, x.receive(to, 0));
            due(0, x.part(to, 1, 0, true));
            due(0, x.part(to, 2, 0, false));
            due(0, x.part(to, 3, 1, true));
            Steps.term(x, to, 3, NUMBER, 2);
            due(0, x.part(to, 3, 2, false));
            Steps.term(x, to, 3, NUMBER, 3);
            due(0, x.part(to, 1, 1, false));
            due(0, x.part(to, 2, 2, true));
            due(1, x.same(to, 1, 2));
            due(0, x.part(to, 3, 1, true));
            Steps.term(x, to, 3, NUMBER, 1);
            due(4, x.collect(to));
        }
        // each send makes copies of its own, none is the pair that was sent
        due(0, x.send(0, 3, 0));
        due(0, x.receive(0, 1));
        due(0, x.receive(0, 2));
        due(0, x.same(0, 1, 2));
        due(0, x.same(0, 1, 3));
        due(0, x.same(0, 2, 3));
        due(12, x.collect(0));
    }

    private static void sendSameNumbersAndBlobs() {
        Due.by("and the same numbers and blobs");
        ProcessHeaps x = new ProcessHeaps();
        due(0, x.blob(1, 0));
        due(1, x.blob(2, 0));
        due(0, x.number(2, 1, Integer.MIN_VALUE));
        due(0, x.pair(2, 2, 0, 1));
        due(0, x.number(2, 1, Integer.MAX_VALUE));
        due(0, x.pair(2, 2, 1, 2));
        due(0, x.send(2, 2, 0));
        due(0, x.send(2, 0, 0));
        due(2, x.blobs());
        due(0, x.restart(2));
        due(2, x.blobs());
        due(0, x.receive(0, 0));
        due(0, x.receive(0, 1));
        due(0, x.part(0, 2, 0, true));
        Steps.term(x, 0, 2, NUMBER, Integer.MAX_VALUE);
        due(0, x.part(0, 0, 0, false));
        due(0, x.part(0, 2, 0, false));
        Steps.term(x, 0, 2, NUMBER, Integer.MIN_VALUE);
        due(0, x.part(0, 2, 0, true));
        Steps.term(x, 0, 2, BLOB, 1);
        due(1, x.same(0, 1, 2));
    }

    private static void sendToTheEnd() {
        Due.by("the copy of the term is put at the end of the mailbox");
        ProcessHeaps x = new ProcessHeaps();
        eachKind(x, 0);
        due(0, x.send(0, 2, 2));
        due(0, x.send(0, 3, 2));
        due(0, x.send(0, 1, 2));
        due(0, x.receive(2, 0));
        due(PAIR, x.kind(2, 0));
        due(0, x.send(0, 0, 2));
        due(0, x.receive(2, 1));
        due(BLOB, x.kind(2, 1));
        due(0, x.send(0, 2, 2));
        due(0, x.receive(2, 2));
        due(NUMBER, x.kind(2, 2));
        due(0, x.receive(2, 2));
        due(NIL, x.kind(2, 2));
        due(0, x.receive(2, 2));
        due(PAIR, x.kind(2, 2));
        due(NOT_SO, x.receive(2, 3));
    }

    private static void sendNoRoom() {
        Due.by("Answers 0 or NO_ROOM.");
        View.Run run = x -> {
            due(0, x.blob(2, 1));
            due(0, x.pair(2, 1, 1, 1));
            due(1, x.blob(2, 1));
            Steps.litter(x, 2, 2, 2);
            Steps.chain(x, 2, 0, 17);
            due(0, x.send(2, 1, 2));
            due(2, x.blob(0, 1));
            Steps.litter(x, 0, 0, 16);
            due(0, x.pair(0, 0, 1, 1));
            due(0, x.pair(0, 0, 1, 0));
            due(0, x.pair(0, 0, 1, 0));
            due(0, x.pair(0, 2, 1, 0));
        };
        View.changesLike(run, NO_ROOM, x -> x.send(0, 2, 2), x -> x.collect(2));
        ProcessHeaps x = new ProcessHeaps();
        run.on(x);
        due(20, x.pairs(2));
        due(0, x.send(0, 0, 2));
        due(20, x.pairs(2));
        due(20, x.pairs(0));
    }

    // Promise 9

    private static void receiveTheOldest() {
        Due.by("Takes the oldest term out of the mailbox; the register dst becomes it.");
        for (int dst = 0; dst < 4; dst++) {
            ProcessHeaps x = new ProcessHeaps();
            eachKind(x, 1);
            for (int src = 3; src > 0; src--) {
                due(0, x.send(1, src, 1));
            }
            int[] kinds = {NIL, NUMBER, PAIR, BLOB};
            for (int kind = 3; kind > 0; kind--) {
                due(0, x.receive(1, dst));
                kinds[dst] = kind;
                for (int register = 0; register < 4; register++) {
                    due(kinds[register], x.kind(1, register));
                }
            }
            due(2, x.pairs(1));
            due(2, x.value(1, dst));
        }
        // NIL is a term too
        ProcessHeaps x = new ProcessHeaps();
        due(0, x.send(0, 0, 1));
        due(0, x.number(1, 0, 1));
        due(0, x.receive(1, 0));
        Steps.term(x, 1, 0, NIL, 0);
    }

    private static void receiveTakesOut() {
        Due.by("Takes the oldest term out of the mailbox");
        for (int count = 1; count <= 3; count++) {
            ProcessHeaps x = new ProcessHeaps();
            due(0, x.blob(0, 0));
            due(0, x.pair(0, 0, 0, 0));
            Steps.sendTimes(x, 0, 0, 1, count);
            due(0, x.restart(0));
            for (int left = count - 1; left >= 0; left--) {
                due(0, x.receive(1, 2));
                due(0, x.nil(1, 2));
                // the mailbox doesn't hold it any more
                due(left, x.collect(1));
                due(left == 0 ? 0 : 1, x.blobs());
            }
            due(NOT_SO, x.receive(1, 2));
        }
    }

    private static void receiveOfAnEmptyMailbox() {
        Due.by("NOT_SO, and changes nothing, if the mailbox is empty");
        for (int dst = 0; dst < 4; dst++) {
            int into = dst;
            // never used, emptied, and begun anew; the mailboxes of the others are not empty
            View.changesNothing(x -> eachKind(x, 1), NOT_SO, x -> x.receive(1, into));
            View.changesNothing(x -> {
                Steps.sendTimes(x, 0, 0, 1, 3);
                Steps.sendTimes(x, 0, 0, 2, 3);
                for (int i = 0; i < 3; i++) {
                    due(0, x.receive(1, 0));
                }
                eachKind(x, 1);
                Steps.litter(x, 1, 0, 19);
            }, NOT_SO, x -> x.receive(1, into));
            View.changesNothing(x -> {
                Steps.sendTimes(x, 0, 0, 0, 1);
                Steps.sendTimes(x, 0, 0, 1, 2);
                due(0, x.restart(1));
                eachKind(x, 1);
            }, NOT_SO, x -> x.receive(1, into));
        }
    }

    // Promise 10

    private static void collectAnswersWhatIsLeft() {
        Due.by("Collects the process. Answers how many pairs it has then, or BAD.");
        ProcessHeaps x = new ProcessHeaps();
        for (int process = 0; process < 3; process++) {
            due(0, x.collect(process));
            Steps.chain(x, process, 3, 20);
            due(20, x.collect(process));
            due(0, x.part(process, 3, 3, true));
            due(20, x.pairs(process));
            due(19, x.collect(process));
            due(19, x.pairs(process));
            due(0, x.nil(process, 3));
            due(0, x.collect(process));
            due(0, x.pairs(process));
        }
        for (int wrong : Steps.NO_PROCESS) {
            due(BAD, x.collect(wrong));
        }
        // all that can be asked of what is reached is as it was
        View.changesLike(y -> {
            eachKind(y, 0);
            due(0, y.send(0, 2, 0));
            Steps.chain(y, 0, 0, 6);
        }, 8, y -> y.collect(0), y -> 0);
    }

    // Promise 11

    private static void fillAll(ProcessHeaps x) {
        for (int process = 0; process < 3; process++) {
            due(process, x.blob(process, 0));
            due(0, x.pair(process, 1, 0, 0));
            due(0, x.send(process, 1, process));
            due(0, x.send(process, 0, process));
            due(0, x.send(process, 3, process));
            due(0, x.number(process, 2, 50 + process));
            Steps.chain(x, process, 3, 15);
            Steps.chain(x, process, 1, 3);
        }
    }

    private static void restartEmptiesAll() {
        Due.by("its registers become NIL, its mailbox and its heap become empty");
        for (int process = 0; process < 3; process++) {
            ProcessHeaps x = new ProcessHeaps();
            fillAll(x);
            due(20, x.pairs(process));
            due(0, x.restart(process));
            Steps.empty(x, process);
            due(0, x.collect(process));
            // all of its room is there again, and its blob's id
            Steps.sendTimes(x, process, 0, process, 3);
            due(NOT_SO, x.send(process, 0, process));
            Steps.chain(x, process, 0, 20);
            due(NO_ROOM, x.pair(process, 1, 1, 1));
            due(process, x.blob(process, 1));
        }
    }

    private static void restartOfOne() {
        Due.by("The process ends and begins anew");
        // the other processes are as if this one had never been
        for (int process = 0; process < 3; process++) {
            int one = process;
            View.changesLike(PromiseEdgeTest::fillAll, 0, x -> x.restart(one), x -> {
                for (int register = 0; register < 4; register++) {
                    x.receive(one, 0);
                }
                for (int register = 0; register < 4; register++) {
                    x.nil(one, register);
                }
                return x.collect(one);
            });
        }
        // a blob that another process holds stays, one that none holds goes
        ProcessHeaps x = new ProcessHeaps();
        due(0, x.blob(0, 0));
        due(1, x.blob(0, 1));
        due(2, x.blob(0, 2));
        due(0, x.send(0, 1, 1));
        due(0, x.pair(0, 3, 2, 2));
        due(0, x.send(0, 3, 2));
        due(0, x.restart(0));
        due(2, x.blobs());
        due(0, x.blob(0, 0));
        due(3, x.blob(0, 1));
    }

    private static void restartOfAnEmptyOne() {
        Due.by("Answers 0 or BAD.");
        View.changesNothing(x -> eachKind(x, 0), 0, x -> x.restart(1));
        View.changesNothing(x -> { }, 0, x -> x.restart(2));
        ProcessHeaps x = new ProcessHeaps();
        fillAll(x);
        for (int wrong : Steps.NO_PROCESS) {
            due(BAD, x.restart(wrong));
        }
        due(3, x.blobs());
        for (int process = 0; process < 3; process++) {
            due(20, x.pairs(process));
            due(0, x.restart(process));
            due(0, x.restart(process));
        }
        due(0, x.blobs());
    }

    // Promise 12

    private static void kindOfEach() {
        Due.by("The kind of the term in the register, or BAD.");
        for (int process = 0; process < 3; process++) {
            ProcessHeaps x = new ProcessHeaps();
            eachKind(x, process);
            for (int kind = 0; kind < 4; kind++) {
                due(kind, x.kind(process, kind));
                due(NIL, x.kind((process + 1) % 3, kind));
            }
            due(BAD, x.kind(process, -1));
            due(BAD, x.kind(process, 4));
            due(BAD, x.kind(-1, 0));
            due(BAD, x.kind(3, 0));
            // a number isn't the kind that it is equal to
            for (int number = -1; number < 4; number++) {
                due(0, x.number(process, 0, number));
                due(NUMBER, x.kind(process, 0));
            }
        }
    }

    // Promise 13

    private static void valueOfNilAndPair() {
        Due.by("0 if it holds NIL or a pair");
        ProcessHeaps x = new ProcessHeaps();
        for (int process = 0; process < 3; process++) {
            for (int register = 0; register < 4; register++) {
                due(0, x.value(process, register));
            }
            due(0, x.number(process, 0, 77));
            // no pair shows where it lives, whatever it holds
            for (int i = 0; i < 20; i++) {
                due(0, x.pair(process, 1 + i % 3, 0, 1 + (i + 2) % 3));
                due(0, x.value(process, 1 + i % 3));
            }
            due(0, x.nil(process, 0));
            due(0, x.value(process, 0));
        }
    }

    private static void valueRefused() {
        Due.by("or if refused");
        ProcessHeaps x = new ProcessHeaps();
        for (int i = 0; i < 12; i++) {
            due(0, x.number(i / 4, i % 4, 100 + i));
        }
        for (int process = 0; process < 3; process++) {
            Steps.sendTimes(x, process, 1, process, 3);
        }
        for (int wrong : Steps.NO_PROCESS) {
            due(0, x.value(wrong, 0));
            due(0, x.value(wrong, 3));
        }
        for (int wrong : Steps.NO_REGISTER) {
            due(0, x.value(0, wrong));
            due(0, x.value(1, wrong));
            due(0, x.value(2, wrong));
        }
    }

    // Promise 14

    private static void sameOfEach() {
        Due.by("both NIL, equal numbers, the same pair or the same blob; else 0; or BAD");
        ProcessHeaps x = new ProcessHeaps();
        for (int a = 0; a < 4; a++) {
            for (int b = 0; b < 4; b++) {
                due(1, x.same(2, a, b));
            }
        }
        // NIL, the number 0, the blob 0 and the first pair are four terms
        eachKind(x, 2);
        due(0, x.number(2, 1, 0));
        for (int a = 0; a < 4; a++) {
            for (int b = 0; b < 4; b++) {
                due(a == b ? 1 : 0, x.same(2, a, b));
            }
        }
        due(BAD, x.same(2, -1, -1));
        due(BAD, x.same(2, 4, 4));
        due(BAD, x.same(2, 0, 4));
        due(BAD, x.same(2, 4, 0));
        due(BAD, x.same(3, 0, 0));
        due(BAD, x.same(-1, 0, 0));
    }

    private static void sameAfterChanges() {
        Due.by("1 if the registers a and b of the process hold the same term");
        ProcessHeaps x = new ProcessHeaps();
        due(0, x.number(0, 0, Integer.MIN_VALUE));
        due(0, x.number(0, 1, Integer.MAX_VALUE));
        due(0, x.same(0, 0, 1));
        due(0, x.number(0, 1, Integer.MIN_VALUE));
        due(1, x.same(0, 0, 1));
        due(0, x.number(0, 0, 0));
        due(0, x.same(0, 0, 1));
        // pairs of equal parts are different pairs
        due(0, x.pair(0, 2, 0, 0));
        due(0, x.pair(0, 3, 0, 0));
        due(0, x.same(0, 2, 3));
        due(0, x.pair(0, 1, 2, 3));
        due(0, x.nil(0, 2));
        due(0, x.part(0, 2, 1, false));
        due(1, x.same(0, 2, 3));
        due(0, x.part(0, 2, 1, true));
        due(0, x.same(0, 2, 3));
        due(3, x.collect(0));
        due(0, x.same(0, 2, 3));
        due(0, x.part(0, 3, 1, true));
        due(1, x.same(0, 2, 3));
        // NIL is NIL, whatever was there before
        due(0, x.blob(0, 2));
        due(1, x.blob(0, 3));
        due(0, x.same(0, 2, 3));
        due(0, x.nil(0, 3));
        due(0, x.nil(0, 1));
        due(1, x.same(0, 1, 3));
        due(0, x.move(0, 1, 2));
        due(1, x.same(0, 1, 2));
    }

    // Promise 15

    private static void pairsFrom0To20() {
        Due.by("The number of pairs in the heap of the process (reached or not), or BAD.");
        for (int reached = 0; reached <= 20; reached++) {
            ProcessHeaps x = new ProcessHeaps();
            due(0, x.pairs(1));
            Steps.chain(x, 1, 0, reached);
            due(reached, x.pairs(1));
            Steps.litter(x, 1, 1, 20 - reached);
            due(20, x.pairs(1));
            due(0, x.pairs(0));
            due(0, x.pairs(2));
        }
        ProcessHeaps x = new ProcessHeaps();
        for (int wrong : Steps.NO_PROCESS) {
            due(BAD, x.pairs(wrong));
        }
    }

    // Promise 16

    private static void blobsFrom0To6() {
        Due.by("How many blobs are kept.");
        ProcessHeaps x = new ProcessHeaps();
        due(0, x.blobs());
        for (int i = 1; i <= 6; i++) {
            due(i - 1, x.blob(i % 3, 0));
            due(i, x.blobs());
            // one holder more is no blob more
            due(0, x.pair(i % 3, 1, 0, 0));
            due(0, x.move(i % 3, 3, 0));
            due(i, x.blobs());
            due(0, x.nil(i % 3, 0));
            due(0, x.nil(i % 3, 3));
            due(i, x.blobs());
        }
        due(NO_ROOM, x.blob(0, 0));
        due(6, x.blobs());
        for (int process = 0; process < 3; process++) {
            due(1, x.collect(process));
        }
        due(3, x.blobs());
        for (int process = 0; process < 3; process++) {
            due(0, x.nil(process, 1));
            due(3 - process, x.blobs());
            due(0, x.collect(process));
            due(2 - process, x.blobs());
        }
    }

    private static void askingChangesNothing() {
        Due.by("Nothing is promised beyond the answers and state changes described above");
        View.changesNothing(PromiseEdgeTest::fillAll, 3, x -> {
            for (int i = 0; i < 12; i++) {
                x.kind(i / 4, i % 4);
                x.value(i / 4, i % 4);
                x.same(i / 4, i % 4, 0);
                x.pairs(i / 4);
            }
            return x.blobs();
        });
    }
}
