/** For each promise of the document: ordinary inputs, the edges it names, and wrong inputs. */
public final class PromiseTest {
    private static final int NIL = ProcessHeaps.NIL;
    private static final int NUMBER = ProcessHeaps.NUMBER;
    private static final int PAIR = ProcessHeaps.PAIR;
    private static final int BLOB = ProcessHeaps.BLOB;
    private static final int BAD = ProcessHeaps.BAD;
    private static final int NO_ROOM = ProcessHeaps.NO_ROOM;
    private static final int NOT_SO = ProcessHeaps.NOT_SO;

    private static final int[] NO_PROCESS = Steps.NO_PROCESS;
    private static final int[] NO_REGISTER = Steps.NO_REGISTER;

    private PromiseTest() {
    }

    public static void main(String[] args) {
        constants();
        promise1NewObject();
        promise2Number();
        promise3Move();
        promise4Nil();
        promise5Blob();
        promise5BlobAllKept();
        promise6Pair();
        promise6PairMakesRoom();
        promise6PairNoRoom();
        promise7Part();
        promise8SendCopies();
        promise8SendKeepsSharing();
        promise8SendToItself();
        promise8SendToItselfMakesRoom();
        promise8SendFullMailbox();
        promise8SendMakesRoom();
        promise8SendNoRoom();
        promise8SendWithoutPairs();
        promise9Receive();
        promise9ReceiveBlob();
        promise10Collect();
        promise10CollectMailbox();
        promise11Restart();
        promise12Kind();
        promise13Value();
        promise14Same();
        promise15Pairs();
        promise16Blobs();
        refusalsChangeNothing();
        Due.end();
    }

    private static void due(long want, long got) {
        Due.due(want, got);
    }

    private static void constants() {
        due(0, NIL);
        due(1, NUMBER);
        due(2, PAIR);
        due(3, BLOB);
        due(-1, BAD);
        due(-2, NO_ROOM);
        due(-3, NOT_SO);
    }

    private static void promise1NewObject() {
        ProcessHeaps other = new ProcessHeaps();
        due(0, other.blob(0, 0));
        due(0, other.pair(0, 1, 0, 0));
        due(0, other.send(0, 1, 1));
        ProcessHeaps x = new ProcessHeaps();
        due(0, x.blobs());
        for (int process = 0; process < 3; process++) {
            for (int register = 0; register < 4; register++) {
                Steps.term(x, process, register, NIL, 0);
            }
            due(0, x.pairs(process));
            due(NOT_SO, x.receive(process, 0));
            due(0, x.collect(process));
        }
        due(1, other.pairs(1));
        due(1, other.blobs());
    }

    private static void promise2Number() {
        ProcessHeaps x = new ProcessHeaps();
        int[] numbers = {7, 0, -1, Integer.MAX_VALUE, Integer.MIN_VALUE};
        for (int number : numbers) {
            for (int process = 0; process < 3; process++) {
                due(0, x.number(process, 3, number));
                Steps.term(x, process, 3, NUMBER, number);
            }
        }
        Steps.term(x, 0, 2, NIL, 0);
        due(0, x.blob(0, 0));
        due(0, x.pair(0, 1, 3, 3));
        due(0, x.number(0, 0, 5));
        due(0, x.blobs());
        due(0, x.number(0, 1, 6));
        due(1, x.pairs(0));
        Steps.term(x, 0, 0, NUMBER, 5);
        Steps.term(x, 0, 1, NUMBER, 6);
        for (int process : NO_PROCESS) {
            due(BAD, x.number(process, 0, 9));
        }
        for (int register : NO_REGISTER) {
            due(BAD, x.number(0, register, 9));
        }
        Steps.term(x, 0, 0, NUMBER, 5);
        Steps.term(x, 0, 3, NUMBER, Integer.MIN_VALUE);
        Steps.term(x, 1, 0, NIL, 0);
    }

    private static void promise3Move() {
        ProcessHeaps x = new ProcessHeaps();
        due(0, x.number(1, 0, 42));
        due(0, x.move(1, 1, 0));
        Steps.term(x, 1, 1, NUMBER, 42);
        Steps.term(x, 1, 0, NUMBER, 42);
        due(0, x.move(1, 0, 3));
        Steps.term(x, 1, 0, NIL, 0);
        Steps.term(x, 1, 1, NUMBER, 42);
        due(0, x.pair(1, 2, 1, 1));
        due(0, x.move(1, 3, 2));
        due(1, x.same(1, 2, 3));
        due(1, x.pairs(1));
        due(0, x.blob(1, 0));
        due(0, x.move(1, 0, 0));
        due(1, x.blobs());
        Steps.term(x, 1, 0, BLOB, 0);
        due(1, x.blob(1, 1));
        due(0, x.move(1, 0, 1));
        due(1, x.blobs());
        Steps.term(x, 1, 0, BLOB, 1);
        due(0, x.move(1, 1, 3));
        due(1, x.blobs());
        due(0, x.move(1, 0, 3));
        due(0, x.blobs());
        due(0, x.number(1, 0, 8));
        for (int process : NO_PROCESS) {
            due(BAD, x.move(process, 0, 1));
        }
        for (int register : NO_REGISTER) {
            due(BAD, x.move(1, register, 0));
            due(BAD, x.move(1, 0, register));
        }
        Steps.term(x, 1, 0, NUMBER, 8);
    }

    private static void promise4Nil() {
        ProcessHeaps x = new ProcessHeaps();
        due(0, x.nil(2, 0));
        Steps.term(x, 2, 0, NIL, 0);
        due(0, x.number(2, 0, 4));
        due(0, x.number(2, 1, 5));
        due(0, x.nil(2, 0));
        Steps.term(x, 2, 0, NIL, 0);
        Steps.term(x, 2, 1, NUMBER, 5);
        due(1, x.same(2, 0, 2));
        due(0, x.blob(2, 3));
        due(0, x.nil(2, 3));
        due(0, x.blobs());
        due(0, x.pair(2, 3, 1, 1));
        due(0, x.nil(2, 3));
        due(1, x.pairs(2));
        for (int process : NO_PROCESS) {
            due(BAD, x.nil(process, 1));
        }
        for (int register : NO_REGISTER) {
            due(BAD, x.nil(2, register));
        }
        Steps.term(x, 2, 1, NUMBER, 5);
    }

    private static void promise5Blob() {
        ProcessHeaps x = new ProcessHeaps();
        due(0, x.blob(0, 0));
        due(1, x.blob(1, 0));
        due(2, x.blob(2, 0));
        due(3, x.blob(0, 1));
        Steps.term(x, 0, 1, BLOB, 3);
        due(0, x.nil(1, 0));
        due(1, x.blob(0, 2));
        // the only holder of its blob gets the same id again, or a lesser one that is free
        due(3, x.blob(0, 1));
        due(4, x.blobs());
        due(0, x.nil(0, 0));
        due(0, x.blob(0, 1));
        Steps.term(x, 0, 1, BLOB, 0);
        due(3, x.blobs());
        due(3, x.blob(0, 0));
        // a blob that a pair holds too stays
        due(0, x.pair(0, 3, 0, 0));
        due(4, x.blob(0, 0));
        due(5, x.blobs());
        for (int process : NO_PROCESS) {
            due(BAD, x.blob(process, 0));
        }
        for (int register : NO_REGISTER) {
            due(BAD, x.blob(0, register));
        }
        due(5, x.blobs());
    }

    private static void promise5BlobAllKept() {
        ProcessHeaps x = new ProcessHeaps();
        for (int id = 0; id < 6; id++) {
            due(id, x.blob(0, 0));
            due(0, x.pair(0, 1, 0, 0));
        }
        due(6, x.blobs());
        // five of the blobs are held by pairs that nothing reaches: blob doesn't collect
        due(NO_ROOM, x.blob(0, 0));
        Steps.term(x, 0, 0, BLOB, 5);
        due(NO_ROOM, x.blob(2, 3));
        Steps.term(x, 2, 3, NIL, 0);
        due(0, x.number(1, 1, 77));
        due(NO_ROOM, x.blob(1, 1));
        Steps.term(x, 1, 1, NUMBER, 77);
        due(NO_ROOM, x.blob(0, 1));
        due(PAIR, x.kind(0, 1));
        due(6, x.pairs(0));
        due(6, x.blobs());
        due(1, x.collect(0));
        due(1, x.blobs());
        due(0, x.nil(0, 1));
        due(0, x.blob(1, 0));
        due(1, x.blob(1, 1));
        due(2, x.blob(1, 2));
        due(3, x.blob(1, 3));
        due(4, x.blob(2, 0));
        due(NO_ROOM, x.blob(0, 0));
        due(0, x.collect(0));
        // now the register alone holds the blob 5
        due(5, x.blob(0, 0));
        due(6, x.blobs());
        due(0, x.send(0, 0, 2));
        due(NO_ROOM, x.blob(0, 0));
        Steps.term(x, 0, 0, BLOB, 5);
        due(2, x.blob(1, 2));
    }

    private static void promise6Pair() {
        ProcessHeaps x = new ProcessHeaps();
        due(0, x.number(0, 0, 3));
        due(0, x.blob(0, 1));
        due(0, x.pair(0, 2, 0, 1));
        due(PAIR, x.kind(0, 2));
        due(1, x.pairs(0));
        due(0, x.pairs(1));
        due(0, x.part(0, 3, 2, true));
        Steps.term(x, 0, 3, NUMBER, 3);
        due(0, x.part(0, 3, 2, false));
        Steps.term(x, 0, 3, BLOB, 0);
        // a pair of equal parts is a new one each time
        due(0, x.pair(0, 3, 0, 1));
        due(0, x.same(0, 2, 3));
        // dst may be head and tail as well
        due(0, x.move(0, 3, 2));
        due(0, x.pair(0, 2, 2, 2));
        due(0, x.part(0, 0, 2, true));
        due(1, x.same(0, 0, 3));
        due(0, x.part(0, 0, 2, false));
        due(1, x.same(0, 0, 3));
        due(0, x.same(0, 2, 3));
        // the register lets its blob go, the pair still holds it
        due(0, x.pair(0, 1, 1, 3));
        due(1, x.blobs());
        due(4, x.pairs(0));
        for (int process : NO_PROCESS) {
            due(BAD, x.pair(process, 0, 0, 0));
        }
        for (int register : NO_REGISTER) {
            due(BAD, x.pair(0, register, 0, 0));
            due(BAD, x.pair(0, 0, register, 0));
            due(BAD, x.pair(0, 0, 0, register));
        }
        due(4, x.pairs(0));
    }

    private static void promise6PairMakesRoom() {
        ProcessHeaps x = new ProcessHeaps();
        due(0, x.blob(1, 0));
        due(0, x.pair(1, 0, 0, 0));
        Steps.litter(x, 2, 0, 3);
        Steps.litter(x, 1, 0, 18);
        due(19, x.pairs(1));
        due(0, x.pair(1, 1, 0, 0));
        // nothing is collected as long as there is room
        due(20, x.pairs(1));
        due(1, x.blobs());
        due(0, x.pair(1, 2, 1, 0));
        due(2, x.pairs(1));
        due(0, x.blobs());
        due(3, x.pairs(2));
        due(0, x.part(1, 3, 2, true));
        due(1, x.same(1, 3, 1));
        // what dst and the mailbox hold is reached while room is made
        due(0, x.restart(1));
        Steps.chain(x, 1, 0, 2);
        Steps.chain(x, 1, 1, 3);
        due(0, x.send(1, 1, 1));
        due(0, x.nil(1, 1));
        Steps.litter(x, 1, 3, 12);
        due(20, x.pairs(1));
        due(0, x.pair(1, 0, 3, 3));
        due(6, x.pairs(1));
        due(4, x.collect(1));
    }

    private static void promise6PairNoRoom() {
        ProcessHeaps x = new ProcessHeaps();
        Steps.litter(x, 0, 0, 5);
        Steps.chain(x, 0, 0, 20);
        due(20, x.pairs(0));
        due(0, x.number(0, 1, 1));
        due(NO_ROOM, x.pair(0, 1, 1, 1));
        Steps.term(x, 0, 1, NUMBER, 1);
        // dst still holds the pairs when room is made
        due(NO_ROOM, x.pair(0, 0, 1, 1));
        due(PAIR, x.kind(0, 0));
        due(20, x.collect(0));
        due(0, x.part(0, 0, 0, true));
        due(20, x.pairs(0));
        due(0, x.pair(0, 2, 1, 0));
        due(20, x.pairs(0));
        due(NO_ROOM, x.pair(0, 2, 1, 0));
        // the other heaps have room
        due(0, x.pair(1, 0, 0, 0));
        due(0, x.pair(2, 0, 0, 0));
    }

    private static void promise7Part() {
        ProcessHeaps x = new ProcessHeaps();
        due(0, x.number(2, 0, 10));
        due(0, x.pair(2, 1, 0, 3));
        due(0, x.pair(2, 2, 1, 0));
        due(0, x.part(2, 3, 2, true));
        due(1, x.same(2, 3, 1));
        due(0, x.part(2, 3, 2, false));
        Steps.term(x, 2, 3, NUMBER, 10);
        due(0, x.part(2, 3, 1, false));
        Steps.term(x, 2, 3, NIL, 0);
        due(0, x.part(2, 2, 2, true));
        due(1, x.same(2, 2, 1));
        due(2, x.pairs(2));
        due(0, x.part(2, 2, 2, true));
        Steps.term(x, 2, 2, NUMBER, 10);
        due(NOT_SO, x.part(2, 1, 2, true));
        due(NOT_SO, x.part(2, 1, 3, false));
        due(PAIR, x.kind(2, 1));
        due(0, x.blob(2, 3));
        due(NOT_SO, x.part(2, 3, 3, true));
        due(1, x.blobs());
        // the pair holds the blob when the register doesn't
        due(0, x.pair(2, 3, 0, 3));
        due(0, x.part(2, 3, 3, false));
        Steps.term(x, 2, 3, BLOB, 0);
        due(0, x.part(2, 3, 1, true));
        due(1, x.blobs());
        due(1, x.collect(2));
        due(0, x.blobs());
        // wrong registers are refused before it is asked whether src holds a pair
        for (int process : NO_PROCESS) {
            due(BAD, x.part(process, 0, 0, true));
        }
        for (int register : NO_REGISTER) {
            due(BAD, x.part(2, register, 1, true));
            due(BAD, x.part(2, register, 0, true));
            due(BAD, x.part(2, 0, register, false));
        }
        Steps.term(x, 2, 0, NUMBER, 10);
    }

    private static void promise8SendCopies() {
        ProcessHeaps x = new ProcessHeaps();
        due(0, x.number(0, 0, -5));
        due(0, x.blob(0, 3));
        due(1, x.blob(0, 1));
        due(0, x.pair(0, 2, 0, 1));
        due(0, x.pair(0, 2, 2, 0));
        due(0, x.send(0, 2, 2));
        due(2, x.pairs(0));
        due(2, x.pairs(2));
        due(0, x.pairs(1));
        due(PAIR, x.kind(0, 2));
        due(0, x.restart(0));
        due(1, x.blobs());
        due(0, x.receive(2, 3));
        due(0, x.part(2, 0, 3, false));
        Steps.term(x, 2, 0, NUMBER, -5);
        due(0, x.part(2, 1, 3, true));
        due(0, x.part(2, 0, 1, true));
        Steps.term(x, 2, 0, NUMBER, -5);
        due(0, x.part(2, 0, 1, false));
        Steps.term(x, 2, 0, BLOB, 1);
        for (int process : NO_PROCESS) {
            due(BAD, x.send(process, 0, 1));
            due(BAD, x.send(2, 0, process));
        }
        for (int register : NO_REGISTER) {
            due(BAD, x.send(2, register, 1));
        }
        due(NOT_SO, x.receive(1, 0));
    }

    private static void promise8SendKeepsSharing() {
        ProcessHeaps x = new ProcessHeaps();
        // 20 pairs with a million ways through them
        Steps.chain(x, 0, 0, 20);
        due(0, x.send(0, 0, 1));
        due(20, x.pairs(1));
        due(0, x.receive(1, 0));
        for (int i = 0; i < 20; i++) {
            due(0, x.part(1, 1, 0, true));
            due(0, x.part(1, 2, 0, false));
            due(1, x.same(1, 1, 2));
            due(0, x.part(1, 0, 0, i % 2 == 0));
        }
        Steps.term(x, 1, 0, NIL, 0);
        // equal pairs that are not the same stay different ones
        due(0, x.pair(2, 0, 3, 3));
        due(0, x.pair(2, 1, 3, 3));
        due(0, x.pair(2, 2, 0, 1));
        due(0, x.restart(0));
        due(0, x.send(2, 2, 0));
        due(3, x.pairs(0));
        due(0, x.receive(0, 0));
        due(0, x.part(0, 1, 0, true));
        due(0, x.part(0, 2, 0, false));
        due(0, x.same(0, 1, 2));
        // a second message is a second copy
        due(0, x.send(2, 2, 0));
        due(6, x.pairs(0));
        due(0, x.receive(0, 3));
        due(0, x.same(0, 0, 3));
    }

    private static void promise8SendToItself() {
        ProcessHeaps x = new ProcessHeaps();
        due(0, x.blob(1, 0));
        due(0, x.pair(1, 1, 0, 3));
        due(0, x.pair(1, 1, 1, 1));
        due(0, x.send(1, 1, 1));
        due(4, x.pairs(1));
        due(0, x.receive(1, 2));
        due(4, x.pairs(1));
        due(0, x.same(1, 1, 2));
        due(0, x.part(1, 3, 2, true));
        due(0, x.part(1, 2, 2, false));
        due(1, x.same(1, 2, 3));
        due(0, x.part(1, 1, 1, false));
        due(0, x.same(1, 1, 2));
        due(0, x.part(1, 1, 1, true));
        due(0, x.part(1, 2, 2, true));
        due(1, x.same(1, 1, 2));
        Steps.term(x, 1, 2, BLOB, 0);
    }

    private static void promise8SendToItselfMakesRoom() {
        ProcessHeaps x = new ProcessHeaps();
        Steps.litter(x, 0, 0, 4);
        due(0, x.number(0, 0, 1));
        due(0, x.pair(0, 1, 0, 0));
        Steps.litter(x, 0, 3, 5);
        due(0, x.number(0, 0, 2));
        due(0, x.pair(0, 1, 1, 0));
        Steps.litter(x, 0, 3, 5);
        due(0, x.number(0, 0, 3));
        due(0, x.pair(0, 1, 0, 1));
        Steps.litter(x, 0, 3, 1);
        due(18, x.pairs(0));
        due(0, x.send(0, 1, 0));
        due(6, x.pairs(0));
        due(0, x.nil(0, 1));
        due(3, x.collect(0));
        due(0, x.receive(0, 1));
        due(0, x.part(0, 0, 1, true));
        Steps.term(x, 0, 0, NUMBER, 3);
        due(0, x.part(0, 1, 1, false));
        due(0, x.part(0, 0, 1, false));
        Steps.term(x, 0, 0, NUMBER, 2);
        due(0, x.part(0, 1, 1, true));
        due(0, x.part(0, 0, 1, true));
        Steps.term(x, 0, 0, NUMBER, 1);
        // 10 pairs are sent once, 11 are not
        due(0, x.restart(0));
        Steps.chain(x, 0, 0, 10);
        due(0, x.send(0, 0, 0));
        due(20, x.pairs(0));
        due(NO_ROOM, x.send(0, 0, 0));
        due(0, x.restart(0));
        Steps.chain(x, 0, 0, 11);
        due(NO_ROOM, x.send(0, 0, 0));
        due(11, x.pairs(0));
        due(NOT_SO, x.receive(0, 1));
    }

    private static void promise8SendFullMailbox() {
        ProcessHeaps x = new ProcessHeaps();
        due(0, x.send(0, 0, 1));
        due(0, x.send(0, 0, 1));
        due(0, x.send(0, 0, 1));
        Steps.litter(x, 1, 0, 20);
        Steps.chain(x, 0, 0, 2);
        due(NOT_SO, x.send(0, 0, 1));
        due(20, x.pairs(1));
        due(NOT_SO, x.send(1, 0, 1));
        due(20, x.pairs(1));
        due(BAD, x.send(0, 4, 1));
        due(0, x.send(0, 0, 2));
        // a place that has been taken out of is free again
        due(0, x.receive(1, 0));
        due(0, x.send(0, 0, 1));
        due(2, x.pairs(1));
        due(NOT_SO, x.send(0, 0, 1));
    }

    private static void promise8SendMakesRoom() {
        ProcessHeaps x = new ProcessHeaps();
        Steps.chain(x, 0, 0, 3);
        Steps.litter(x, 0, 3, 4);
        Steps.litter(x, 1, 0, 17);
        due(0, x.send(0, 0, 1));
        due(20, x.pairs(1));
        due(0, x.send(0, 0, 1));
        due(6, x.pairs(1));
        due(7, x.pairs(0));
        Steps.litter(x, 1, 0, 12);
        due(18, x.pairs(1));
        due(0, x.send(0, 0, 1));
        due(9, x.pairs(1));
        // a term of 20 pairs needs a heap that nothing is reached in
        due(0, x.restart(1));
        Steps.chain(x, 0, 0, 20);
        Steps.litter(x, 1, 0, 1);
        due(0, x.send(0, 0, 1));
        due(20, x.pairs(1));
        due(0, x.restart(1));
        due(0, x.pair(1, 0, 0, 0));
        due(NO_ROOM, x.send(0, 0, 1));
        due(1, x.pairs(1));
    }

    private static void promise8SendNoRoom() {
        ProcessHeaps x = new ProcessHeaps();
        due(0, x.blob(2, 0));
        due(0, x.pair(2, 0, 0, 0));
        due(0, x.number(2, 0, 5));
        Steps.chain(x, 2, 1, 18);
        due(19, x.pairs(2));
        Steps.litter(x, 1, 0, 2);
        Steps.chain(x, 1, 0, 3);
        due(1, x.blobs());
        due(NO_ROOM, x.send(1, 0, 2));
        // the process that would have got the term has been collected, and only that one
        due(18, x.pairs(2));
        due(5, x.pairs(1));
        due(0, x.blobs());
        Steps.term(x, 2, 0, NUMBER, 5);
        due(PAIR, x.kind(1, 0));
        due(NOT_SO, x.receive(2, 0));
        due(0, x.part(1, 0, 0, true));
        due(0, x.send(1, 0, 2));
        due(20, x.pairs(2));
        due(0, x.receive(2, 0));
        due(PAIR, x.kind(2, 0));
    }

    private static void promise8SendWithoutPairs() {
        ProcessHeaps x = new ProcessHeaps();
        Steps.litter(x, 1, 0, 20);
        due(0, x.send(0, 0, 1));
        due(0, x.number(0, 0, 9));
        due(0, x.send(0, 0, 1));
        due(0, x.blob(0, 0));
        due(0, x.send(0, 0, 1));
        due(20, x.pairs(1));
        due(0, x.nil(0, 0));
        due(1, x.blobs());
        due(0, x.receive(1, 0));
        Steps.term(x, 1, 0, NIL, 0);
        due(0, x.receive(1, 0));
        Steps.term(x, 1, 0, NUMBER, 9);
        due(0, x.receive(1, 0));
        Steps.term(x, 1, 0, BLOB, 0);
        due(20, x.pairs(1));
    }

    private static void promise9Receive() {
        ProcessHeaps x = new ProcessHeaps();
        due(0, x.number(0, 0, 50));
        due(NOT_SO, x.receive(0, 0));
        Steps.term(x, 0, 0, NUMBER, 50);
        // first in, first out, through more terms than the mailbox holds
        due(0, x.send(0, 0, 2));
        for (int i = 51; i < 60; i++) {
            due(0, x.number(1, 3, i));
            due(0, x.send(1, 3, 2));
            due(0, x.send(1, 2, 2));
            due(NOT_SO, x.send(1, 3, 2));
            due(0, x.receive(2, 1));
            Steps.term(x, 2, 1, NUMBER, i - 1);
            due(0, x.receive(2, 1));
            Steps.term(x, 2, 1, NUMBER, i);
            due(0, x.receive(2, 1));
            Steps.term(x, 2, 1, NIL, 0);
            due(NOT_SO, x.receive(2, 1));
            due(0, x.send(1, 3, 2));
        }
        due(NOT_SO, x.receive(0, 0));
        due(NOT_SO, x.receive(1, 0));
        for (int process : NO_PROCESS) {
            due(BAD, x.receive(process, 0));
        }
        for (int register : NO_REGISTER) {
            due(BAD, x.receive(2, register));
            due(BAD, x.receive(0, register));
        }
        due(0, x.receive(2, 0));
        Steps.term(x, 2, 0, NUMBER, 59);
    }

    private static void promise9ReceiveBlob() {
        ProcessHeaps x = new ProcessHeaps();
        due(0, x.blob(0, 0));
        due(0, x.send(0, 0, 0));
        due(0, x.send(0, 0, 1));
        due(0, x.nil(0, 0));
        due(1, x.blobs());
        due(0, x.receive(1, 0));
        due(0, x.nil(1, 0));
        due(1, x.blobs());
        // the blob goes from the mailbox to the register and is never let go
        due(0, x.receive(0, 2));
        Steps.term(x, 0, 2, BLOB, 0);
        due(1, x.blobs());
        // the same blob is in the mailbox and in dst
        due(0, x.send(0, 2, 0));
        due(0, x.receive(0, 2));
        Steps.term(x, 0, 2, BLOB, 0);
        due(1, x.blobs());
        // dst lets another blob go
        due(0, x.send(0, 2, 0));
        due(1, x.blob(0, 2));
        due(2, x.blobs());
        due(0, x.receive(0, 2));
        Steps.term(x, 0, 2, BLOB, 0);
        due(1, x.blobs());
        // a place of the mailbox that is empty again holds nothing
        due(0, x.nil(0, 2));
        due(0, x.blobs());
    }

    private static void promise10Collect() {
        ProcessHeaps x = new ProcessHeaps();
        due(0, x.collect(0));
        due(0, x.number(0, 0, 1));
        due(0, x.blob(0, 1));
        due(0, x.pair(0, 2, 0, 1));
        due(0, x.number(0, 0, 2));
        due(0, x.pair(0, 3, 0, 2));
        due(0, x.number(0, 0, 3));
        due(0, x.pair(0, 3, 0, 3));
        Steps.litter(x, 0, 1, 2);
        Steps.litter(x, 1, 1, 2);
        due(0, x.nil(0, 2));
        due(5, x.pairs(0));
        due(3, x.collect(0));
        due(3, x.pairs(0));
        due(2, x.pairs(1));
        due(1, x.blobs());
        due(3, x.collect(0));
        // what is reached is as it was, after the slots of the others have been used anew
        Steps.litter(x, 0, 1, 17);
        for (int i = 3; i > 0; i--) {
            due(0, x.part(0, 0, 3, true));
            Steps.term(x, 0, 0, NUMBER, i);
            due(0, x.part(0, 3, 3, false));
        }
        Steps.term(x, 0, 3, BLOB, 0);
        due(20, x.pairs(0));
        due(0, x.collect(0));
        due(1, x.blobs());
        // a pair that is not reached keeps a blob until it is collected
        due(0, x.pair(0, 3, 3, 3));
        due(0, x.pair(0, 3, 3, 3));
        due(0, x.nil(0, 3));
        due(1, x.blobs());
        due(0, x.collect(0));
        due(0, x.blobs());
        for (int process : NO_PROCESS) {
            due(BAD, x.collect(process));
        }
        due(2, x.pairs(1));
    }

    private static void promise10CollectMailbox() {
        ProcessHeaps x = new ProcessHeaps();
        due(0, x.blob(0, 0));
        due(0, x.pair(0, 0, 0, 3));
        for (int i = 1; i <= 3; i++) {
            due(0, x.send(0, 0, 1));
            due(i, x.collect(1));
        }
        due(0, x.restart(0));
        due(3, x.collect(1));
        due(1, x.blobs());
        for (int i = 2; i >= 0; i--) {
            due(0, x.receive(1, 0));
            due(0, x.nil(1, 0));
            due(i, x.collect(1));
        }
        due(0, x.blobs());
        // every register counts
        for (int register = 0; register < 4; register++) {
            due(0, x.pair(2, register, register, register));
            due(register + 1, x.collect(2));
        }
    }

    private static void promise11Restart() {
        ProcessHeaps x = new ProcessHeaps();
        due(0, x.number(1, 0, 6));
        due(0, x.blob(1, 1));
        due(0, x.pair(1, 2, 0, 1));
        due(1, x.blob(1, 3));
        due(0, x.send(1, 2, 1));
        due(0, x.send(1, 3, 1));
        due(0, x.send(1, 0, 1));
        due(0, x.send(1, 2, 0));
        due(0, x.send(1, 0, 2));
        due(2, x.pairs(1));
        due(0, x.restart(1));
        for (int register = 0; register < 4; register++) {
            Steps.term(x, 1, register, NIL, 0);
        }
        due(0, x.pairs(1));
        due(NOT_SO, x.receive(1, 0));
        // the blob in the copy that went to another process is kept
        due(1, x.blobs());
        due(1, x.pairs(0));
        due(0, x.receive(0, 0));
        due(0, x.part(0, 1, 0, false));
        Steps.term(x, 0, 1, BLOB, 0);
        due(0, x.receive(2, 0));
        Steps.term(x, 2, 0, NUMBER, 6);
        // the mailbox and the heap are whole again
        due(0, x.number(2, 0, 61));
        due(0, x.send(2, 0, 1));
        due(0, x.send(2, 1, 1));
        due(0, x.send(2, 1, 1));
        due(0, x.receive(1, 0));
        Steps.term(x, 1, 0, NUMBER, 61);
        Steps.chain(x, 1, 1, 20);
        due(0, x.restart(1));
        Steps.chain(x, 1, 1, 20);
        due(0, x.restart(0));
        due(0, x.blobs());
        for (int process : NO_PROCESS) {
            due(BAD, x.restart(process));
        }
        due(20, x.pairs(1));
        Steps.term(x, 2, 0, NUMBER, 61);
    }

    private static void promise12Kind() {
        ProcessHeaps x = new ProcessHeaps();
        for (int process = 0; process < 3; process++) {
            due(0, x.number(process, 1, 0));
            due(0, x.pair(process, 2, 0, 0));
            due(process, x.blob(process, 3));
            due(NIL, x.kind(process, 0));
            due(NUMBER, x.kind(process, 1));
            due(PAIR, x.kind(process, 2));
            due(BLOB, x.kind(process, 3));
        }
        for (int process : NO_PROCESS) {
            due(BAD, x.kind(process, 1));
        }
        for (int register : NO_REGISTER) {
            due(BAD, x.kind(0, register));
        }
    }

    private static void promise13Value() {
        ProcessHeaps x = new ProcessHeaps();
        due(0, x.value(0, 0));
        due(0, x.number(0, 0, -3));
        due(-3, x.value(0, 0));
        due(0, x.number(0, 0, 123456789));
        due(123456789, x.value(0, 0));
        for (int i = 0; i < 3; i++) {
            due(0, x.pair(2, i, 3, 3));
            due(0, x.value(2, i));
        }
        due(0, x.blob(1, 0));
        due(1, x.blob(1, 1));
        due(2, x.blob(1, 2));
        due(0, x.value(1, 0));
        due(1, x.value(1, 1));
        due(2, x.value(1, 2));
        due(0, x.nil(1, 2));
        due(0, x.value(1, 2));
        for (int process : NO_PROCESS) {
            due(0, x.value(process, 0));
        }
        for (int register : NO_REGISTER) {
            due(0, x.value(0, register));
            due(0, x.value(1, register));
        }
    }

    private static void promise14Same() {
        ProcessHeaps x = new ProcessHeaps();
        due(1, x.same(0, 0, 0));
        due(1, x.same(0, 0, 3));
        // the number 0, the blob 0 and NIL all differ
        due(0, x.number(0, 1, 0));
        due(0, x.blob(0, 2));
        due(0, x.pair(0, 3, 0, 0));
        for (int a = 0; a < 4; a++) {
            for (int b = 0; b < 4; b++) {
                due(a == b ? 1 : 0, x.same(0, a, b));
            }
        }
        due(0, x.number(0, 0, 5));
        due(0, x.same(0, 0, 1));
        due(0, x.number(0, 1, 5));
        due(1, x.same(0, 0, 1));
        due(0, x.number(0, 1, -5));
        due(0, x.same(0, 0, 1));
        due(0, x.move(0, 0, 2));
        due(1, x.same(0, 0, 2));
        due(1, x.blob(0, 0));
        due(0, x.same(0, 0, 2));
        due(0, x.move(0, 0, 3));
        due(1, x.same(0, 0, 3));
        due(0, x.nil(0, 1));
        due(0, x.pair(0, 0, 1, 1));
        due(0, x.same(0, 0, 3));
        // a NIL out of a pair, and a NIL that was something else before, are like any other
        due(0, x.part(0, 0, 3, true));
        due(1, x.same(0, 0, 1));
        due(0, x.number(0, 0, 12));
        due(0, x.nil(0, 0));
        due(1, x.same(0, 0, 1));
        for (int process : NO_PROCESS) {
            due(BAD, x.same(process, 0, 1));
        }
        for (int register : NO_REGISTER) {
            due(BAD, x.same(0, register, 0));
            due(BAD, x.same(0, 0, register));
            due(BAD, x.same(0, register, register));
        }
    }

    private static void promise15Pairs() {
        ProcessHeaps x = new ProcessHeaps();
        for (int i = 1; i <= 20; i++) {
            due(0, x.pair(2, i % 4, i % 3, i % 2));
            due(i, x.pairs(2));
        }
        due(0, x.nil(2, 0));
        due(0, x.nil(2, 1));
        due(0, x.nil(2, 2));
        due(0, x.nil(2, 3));
        due(20, x.pairs(2));
        due(0, x.pairs(0));
        due(0, x.pairs(1));
        due(0, x.collect(2));
        due(0, x.pairs(2));
        for (int process : NO_PROCESS) {
            due(BAD, x.pairs(process));
        }
    }

    private static void promise16Blobs() {
        ProcessHeaps x = new ProcessHeaps();
        due(0, x.blobs());
        for (int i = 0; i < 6; i++) {
            due(i, x.blob(i / 2, i % 2));
            due(i + 1, x.blobs());
        }
        // a second holder makes no second blob
        due(0, x.move(0, 2, 0));
        due(0, x.send(0, 0, 1));
        due(0, x.pair(0, 3, 0, 2));
        due(6, x.blobs());
        // as head alone and as tail alone
        due(0, x.pair(1, 3, 0, 2));
        due(0, x.pair(1, 3, 2, 1));
        due(0, x.nil(1, 0));
        due(0, x.nil(1, 1));
        due(6, x.blobs());
        due(1, x.collect(1));
        due(5, x.blobs());
        due(0, x.nil(1, 3));
        due(5, x.blobs());
        due(0, x.collect(1));
        due(4, x.blobs());
        due(0, x.restart(2));
        due(2, x.blobs());
        due(0, x.restart(0));
        due(1, x.blobs());
        due(0, x.restart(1));
        due(0, x.blobs());
    }

    private static void refusalsChangeNothing() {
        ProcessHeaps x = new ProcessHeaps();
        due(0, x.number(0, 0, 1));
        due(0, x.blob(0, 1));
        due(0, x.pair(0, 2, 0, 1));
        due(0, x.send(0, 2, 0));
        Steps.litter(x, 0, 3, 18);
        for (int register : NO_REGISTER) {
            due(BAD, x.number(0, register, 3));
            due(BAD, x.move(0, register, 1));
            due(BAD, x.nil(0, register));
            due(BAD, x.blob(0, register));
            due(BAD, x.pair(0, register, 0, 1));
            due(BAD, x.pair(0, 3, register, 1));
            due(BAD, x.pair(0, 3, 0, register));
            due(BAD, x.part(0, register, 2, true));
            due(BAD, x.send(0, register, 0));
            due(BAD, x.send(0, 2, register));
            due(BAD, x.receive(0, register));
        }
        for (int process : NO_PROCESS) {
            due(BAD, x.pair(process, 3, 0, 1));
            due(BAD, x.send(0, 2, process));
            due(BAD, x.collect(process));
            due(BAD, x.restart(process));
        }
        due(20, x.pairs(0));
        due(0, x.pairs(1));
        due(1, x.blobs());
        Steps.term(x, 0, 0, NUMBER, 1);
        Steps.term(x, 0, 1, BLOB, 0);
        Steps.term(x, 0, 2, PAIR, 0);
        Steps.term(x, 0, 3, NIL, 0);
        Steps.term(x, 1, 0, NIL, 0);
        due(0, x.receive(0, 3));
        due(PAIR, x.kind(0, 3));
        due(NOT_SO, x.receive(0, 3));
    }
}
