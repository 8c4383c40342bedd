/** Each sentence of the document that names a boundary of the queue: promises 1, 5, 6 and 9 and the terms. */
public final class QueueEdgeTest {
    private static final int[] NONE = {};
    private static final int[] DRAFT = {41, 42, 43, 44};
    private static final int[] PAGE = {31, 32, 33};

    private QueueEdgeTest() {
    }

    public static void main(String[] args) {
        queueIsEmptyAtTheStart();
        queueHoldsFourBlocksOldestFirst();
        queueHoldsFourFullBlocks();
        sendOfAnEmptyDraft();
        sendOfEveryLengthAtEveryTurn();
        sendTakesTheDraftAsItIs();
        sendRefusedChangesNothing();
        sendIsFreeAgainAfterReceive();
        receiveFromTheNewObject();
        receiveOfTheLastBlock();
        receiveRefusedChangesNothing();
        receiveOfAnEmptyBlock();
        receiveOfAShorterBlock();
        receiveLeavesTheDraft();
        blocksFromNoneToFour();
        goesRoundAtEveryFill();
        Check.end();
    }

    /** "THE QUEUE ... is empty at the start." */
    private static void queueIsEmptyAtTheStart() {
        Check.due("new object: blocks()", new Counted().blocks(), 0);
        Check.due("new object: receive()", new Counted().receive(), -1);
        Check.due("new object: the first send()", new Counted().send(), 1);
    }

    /** "holds at most 4 blocks, oldest first": for every count of blocks and every turn of the queue. */
    private static void queueHoldsFourBlocksOldestFirst() {
        for (int turns = 0; turns <= 5; turns++) {
            for (int blocks = 0; blocks <= 4; blocks++) {
                int[][] queue = Bench.someBlocks(blocks);
                Counted x = Bench.turned(turns, DRAFT, queue, PAGE);
                Bench.holds(blocks + " blocks after " + turns + " turns", x, DRAFT, queue, PAGE);
            }
        }
    }

    /** Four blocks of 48 bytes that can't be squeezed, side by side: none reaches into another. */
    private static void queueHoldsFourFullBlocks() {
        int[][] queue = new int[4][];
        Counted x = new Counted();
        for (int i = 0; i < 4; i++) {
            queue[i] = Bench.row(48, 48 * i + 64, 1);
            x.erase();
            Bench.putAll(x, queue[i]);
            Check.due("send() of 48 bytes", x.send(), i + 1);
        }
        Check.due("the fifth send() of 48 bytes", x.send(), -1);
        Bench.holds("4 blocks of 48 bytes", x, queue[3], queue, NONE);
    }

    /** "Squeezes the draft and puts it at the end of the queue as a block": an empty one is a block too. */
    private static void sendOfAnEmptyDraft() {
        Counted x = Bench.with(NONE, new int[0][], PAGE);
        for (int i = 1; i <= 4; i++) {
            Check.due("send() of an empty draft", x.send(), i);
        }
        Check.due("the fifth send() of an empty draft", x.send(), -1);
        Bench.holds("4 empty blocks", x, NONE, new int[4][0], PAGE);
    }

    /** Every length of block in every place of the queue, between two others. */
    private static void sendOfEveryLengthAtEveryTurn() {
        for (int turns = 0; turns < 4; turns++) {
            for (int length = 0; length <= 48; length++) {
                int[] different = Bench.row(length, 11, 9);
                int[] same = Bench.row(length, 222, 0);
                int[][] queue = {Bench.bytes(1, 2), different, same, Bench.bytes(3)};
                Counted x = Bench.turned(turns, DRAFT, queue, PAGE);
                Bench.holds("blocks of " + length + " after " + turns + " turns", x, DRAFT, queue, PAGE);
            }
        }
    }

    /** "the draft stays", and what is done to it afterwards does not reach the block. */
    private static void sendTakesTheDraftAsItIs() {
        Counted x = Bench.withDraft(DRAFT);
        Check.due("send()", x.send(), 1);
        Check.due("the draft stays: put", x.put(45), 5);
        Check.due("send()", x.send(), 2);
        Check.due("the draft stays: repeat", x.repeat(5, 5), 10);
        Check.due("send()", x.send(), 3);
        x.erase();
        Bench.putAll(x, 1, 2, 3, 4, 5, 6);
        int[][] queue = {DRAFT, Bench.row(5, 41, 1), Bench.bytes(41, 42, 43, 44, 45, 41, 42, 43, 44, 45)};
        Bench.holds("a changed draft", x, Bench.row(6, 1, 1), queue, NONE);
    }

    /** send "Answers -1 and changes nothing if the queue has 4 blocks". */
    private static void sendRefusedChangesNothing() {
        int[][] queue = Bench.someBlocks(4);
        for (int[] draft : new int[][] {NONE, DRAFT, Bench.row(48, 5, 5)}) {
            for (int turns = 0; turns <= 4; turns++) {
                Counted x = Bench.turned(turns, draft, queue, PAGE);
                String call = "send() of " + draft.length + " bytes into 4 blocks after " + turns + " turns";
                for (int again = 0; again < 5; again++) {
                    Check.due(call, x.send(), -1);
                }
                Bench.holds(call, x, draft, queue, PAGE);
            }
        }
    }

    /** "if the queue has 4 blocks": one taken out is room for one, and for no more. */
    private static void sendIsFreeAgainAfterReceive() {
        int[][] queue = Bench.someBlocks(4);
        Counted x = Bench.with(DRAFT, queue, PAGE);
        Check.due("send() into 4 blocks", x.send(), -1);
        Check.due("receive()", x.receive(), queue[0].length);
        Check.due("send() into 3 blocks", x.send(), 4);
        Check.due("send() into 4 blocks again", x.send(), -1);
        int[][] then = {queue[1], queue[2], queue[3], DRAFT};
        Bench.holds("a place that is free again", x, DRAFT, then, queue[0]);
    }

    /** receive "Answers -1 ... if the queue is empty": before anything was sent. */
    private static void receiveFromTheNewObject() {
        Counted x = new Counted();
        Check.due("receive() of a new object", x.receive(), -1);
        Check.due("receive() of a new object, again", x.receive(), -1);
        Bench.holds("receive() of a new object", x, NONE, new int[0][], NONE);
    }

    /** The last block comes out once, and leaves an empty queue. */
    private static void receiveOfTheLastBlock() {
        Counted x = Bench.with(DRAFT, new int[][] {{9, 8}}, PAGE);
        Check.due("receive() of the last block", x.receive(), 2);
        Check.due("blocks() behind it", x.blocks(), 0);
        Check.due("receive() behind it", x.receive(), -1);
        Bench.holds("the last block taken", x, DRAFT, new int[0][], Bench.bytes(9, 8));
    }

    /** receive "Answers -1 and changes nothing if the queue is empty". */
    private static void receiveRefusedChangesNothing() {
        for (int[] page : new int[][] {NONE, PAGE, Bench.row(48, 7, 11)}) {
            for (int turns = 0; turns <= 4; turns++) {
                Counted x = Bench.turned(turns, DRAFT, new int[0][], page);
                String call = "receive() with a page of " + page.length + " after " + turns + " turns";
                for (int again = 0; again < 5; again++) {
                    Check.due(call, x.receive(), -1);
                }
                Check.due(call + ": blocks()", x.blocks(), 0);
                Check.due(call + ": send() behind it", x.send(), 1);
                Bench.holds(call, x, DRAFT, new int[][] {DRAFT}, page);
            }
        }
    }

    /** "else the number of bytes of the page": 0 for an empty block, which is not the refusal. */
    private static void receiveOfAnEmptyBlock() {
        Counted x = Bench.with(DRAFT, new int[][] {{}, {6}, {}}, Bench.row(48, 1, 1));
        Check.due("receive() of an empty block", x.receive(), 0);
        Bench.pageIs("an empty block", x);
        Check.due("find in an empty block", x.find(1, 0), -1);
        Bench.holds("an empty block", x, DRAFT, new int[][] {{6}, {}}, NONE);
    }

    /** "it becomes the page": nothing of a longer page before it is left. */
    private static void receiveOfAShorterBlock() {
        for (int length = 0; length <= 47; length++) {
            int[] block = Bench.row(length, 100, 0);
            Counted x = Bench.with(DRAFT, new int[][] {block}, Bench.row(48, 1, 1));
            Check.due("receive() of " + length + " bytes", x.receive(), length);
            Check.due("the last byte of the page before", x.at(47), -1);
            Check.due("find of a byte of the page before", x.find(48, 0), -1);
            Bench.holds("a page of " + length, x, DRAFT, new int[0][], block);
        }
    }

    /** receive changes the queue and the page alone: the draft stays, empty, short or full. */
    private static void receiveLeavesTheDraft() {
        int[][] queue = {Bench.row(48, 20, 0), Bench.row(5, 77, 1)};
        for (int length : Bench.bytes(0, 1, 4, 47, 48)) {
            int[] draft = Bench.row(length, 150, 1);
            Counted x = Bench.with(draft, queue, PAGE);
            Check.due("receive()", x.receive(), 48);
            Bench.holds("a draft of " + length, x, draft, new int[][] {queue[1]}, queue[0]);
        }
    }

    /** "The number of blocks in the queue", from 0 to 4, after refused calls too. */
    private static void blocksFromNoneToFour() {
        Counted x = new Counted();
        Check.due("receive() of none", x.receive(), -1);
        Check.due("blocks() after a refused receive()", x.blocks(), 0);
        for (int count = 1; count <= 4; count++) {
            Check.due("send()", x.send(), count);
            Check.due("blocks()", x.blocks(), count);
        }
        Check.due("send() into 4", x.send(), -1);
        Check.due("blocks() after a refused send()", x.blocks(), 4);
        for (int count = 3; count >= 0; count--) {
            Check.due("receive()", x.receive(), 0);
            Check.due("blocks()", x.blocks(), count);
        }
        Check.due("receive() of none", x.receive(), -1);
        Check.due("blocks() after a refused receive()", x.blocks(), 0);
    }

    /** The queue goes round and round with 0 to 3 blocks standing in it, as far as the calls allow. */
    private static void goesRoundAtEveryFill() {
        for (int standing = 0; standing <= 3; standing++) {
            Counted x = new Counted();
            for (int i = 0; i < standing; i++) {
                x.erase();
                x.put(i);
                x.send();
            }
            for (int i = standing; i < 90 + standing; i++) {
                x.erase();
                x.put(i);
                Check.due("send() in the round", x.send(), standing + 1);
                Check.due("receive() in the round", x.receive(), 1);
                Check.due("at(0) in the round", x.at(0), i - standing);
            }
        }
    }
}
