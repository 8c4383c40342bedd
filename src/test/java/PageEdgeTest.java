/** Each sentence of the document that names a boundary of the page: promises 1, 7, 8 and 10 to 12 and the terms. */
public final class PageEdgeTest {
    private static final int MIN = Integer.MIN_VALUE;
    private static final int MAX = Integer.MAX_VALUE;
    private static final int[] NONE = {};
    private static final int[] DRAFT = {41, 42, 43, 44};
    private static final int[] PAGE = {31, 32, 33};

    private PageEdgeTest() {
    }

    public static void main(String[] args) {
        pageIsEmptyAtTheStart();
        pageIsTheBlockTakenLast();
        atInsideAndOutside();
        atAnswersEveryByte();
        lengthOfEveryPage();
        findTakesTheLowEightBits();
        findFromEveryPlace();
        findOfEqualBytes();
        findOfEveryByte();
        findInAnEmptyPage();
        findLooksAtThePageAlone();
        lookingChangesNothing();
        editOfAnEmptyPage();
        editOverEveryLength();
        editOfAFullPage();
        editLeavesThePageAndTheQueue();
        editedDraftIsApartFromThePage();
        editTakesThePageOfThatTime();
        Check.end();
    }

    /** "THE PAGE is the block that was taken out of the queue last (empty at the start)." */
    private static void pageIsEmptyAtTheStart() {
        Bench.pageIs("new object", new Counted());
        Counted x = Bench.withDraft(DRAFT);
        x.send();
        Bench.pageIs("a block sent, none received", x);
    }

    /** "the block that was taken out of the queue last": each in its turn, and the last one stays. */
    private static void pageIsTheBlockTakenLast() {
        int[][] queue = Bench.someBlocks(4);
        Counted x = Bench.with(DRAFT, queue, PAGE);
        for (int[] block : queue) {
            x.receive();
            Bench.pageIs("the block taken last", x, block);
        }
        x.receive();
        x.send();
        x.put(1);
        x.erase();
        Bench.pageIs("the last block stays the page", x, queue[3]);
    }

    /** "The byte of the page at the place (from 0); -1 if there is none": for every length of the page. */
    private static void atInsideAndOutside() {
        for (int length = 0; length <= 48; length++) {
            Counted x = Bench.withPage(Bench.row(48, 9, 2));
            int[] page = Bench.row(length, 70, 3);
            Bench.putAll(x, page);
            x.send();
            x.receive();
            Bench.pageIs("a page of " + length, x, page);
            for (int place : Bench.bytes(MIN, MIN + 1, -48, -1, length, length + 1, 48, 49, 256, MAX - 1, MAX)) {
                Check.due("at(" + place + ") of " + length, x.at(place), -1);
            }
        }
    }

    /** A byte is 0 to 255: none of them is answered below 0, and 255 is not the -1 of "none". */
    private static void atAnswersEveryByte() {
        for (int value = 0; value <= 255; value++) {
            Check.due("at(0) of byte " + value, Bench.withPage(value).at(0), value);
        }
    }

    /** "The number of bytes of the page", from 0 to 48; the draft and the queue don't count. */
    private static void lengthOfEveryPage() {
        Check.due("length() of a new object", new Counted().length(), 0);
        for (int length = 0; length <= 48; length++) {
            Counted x = Bench.with(DRAFT, new int[][] {{1, 2}}, Bench.row(length, 5, 0));
            Check.due("length() of " + length, x.length(), length);
            x.send();
            x.put(6);
            Check.due("length() after send and put", x.length(), length);
            x.receive();
            Check.due("length() of the next page", x.length(), 2);
            x.receive();
            Check.due("length() of the page behind it", x.length(), 4);
            x.receive();
            Check.due("length() after a refused receive()", x.length(), 4);
        }
    }

    /** find: "whose byte is value & 255". */
    private static void findTakesTheLowEightBits() {
        Counted x = Bench.withPage(0, 1, 127, 128, 254, 255);
        int[][] calls = {
            {0, 0}, {256, 0}, {-256, 0}, {MIN, 0}, {65536, 0}, {1, 1}, {257, 1}, {-255, 1}, {MIN + 1, 1},
            {127, 2}, {383, 2}, {-129, 2}, {128, 3}, {-128, 3}, {384, 3}, {254, 4}, {-2, 4}, {MAX - 1, 4},
            {255, 5}, {-1, 5}, {511, 5}, {MAX, 5}, {2, -1}, {258, -1}, {-254, -1}, {126, -1}, {-130, -1},
        };
        for (int[] call : calls) {
            Check.due("find(" + call[0] + ", 0)", x.find(call[0], 0), call[1]);
        }
    }

    /** "The least place of the page at or behind from": every place and every from, near and far. */
    private static void findFromEveryPlace() {
        for (int length : Bench.bytes(1, 2, 3, 47, 48)) {
            int[] page = Bench.row(length, 250, 1);
            for (int place = 0; place < length; place++) {
                Counted x = Bench.withPage(page);
                for (int from = -2; from <= 50; from++) {
                    findOnce(x, page[place], from, from <= place ? place : -1);
                }
                for (int from : Bench.bytes(MIN, MIN + 1, -49)) {
                    findOnce(x, page[place], from, place);
                }
                for (int from : Bench.bytes(256, MAX - 1, MAX)) {
                    findOnce(x, page[place], from, -1);
                }
            }
        }
    }

    private static void findOnce(Counted x, int value, int from, int want) {
        Check.due("find(" + value + ", " + from + ")", x.find(value, from), want);
    }

    /** "The least place": of several, the first that is not before from. */
    private static void findOfEqualBytes() {
        Counted same = Bench.withPage(Bench.row(48, 200, 0));
        Counted pairs = Bench.withDraft(8, 9);
        pairs.repeat(2, 46);
        pairs.send();
        pairs.receive();
        for (int from = -1; from <= 48; from++) {
            int start = from < 0 ? 0 : from;
            findOnce(same, 200, from, start < 48 ? start : -1);
            findOnce(pairs, 8, from, start + start % 2 < 48 ? start + start % 2 : -1);
            findOnce(pairs, 9, from, start < 48 ? start | 1 : -1);
        }
    }

    private static void findOfEveryByte() {
        for (int value = 0; value <= 255; value++) {
            Counted x = Bench.withPage(value ^ 128, value);
            findOnce(x, value, 0, 1);
            findOnce(x, value - 256, 0, 1);
            findOnce(x, value + 1, 0, -1);
        }
    }

    /** find: "-1 if there is none", when there is no place at all. */
    private static void findInAnEmptyPage() {
        Counted received = Bench.withPage(Bench.row(48, 0, 0));
        received.send();
        received.receive();
        for (int from : Bench.bytes(MIN, -1, 0, 1, 47, 48, MAX)) {
            findOnce(new Counted(), 0, from, -1);
            findOnce(received, 0, from, -1);
        }
    }

    /** "place of the page": a byte of the draft or of a block that waits is not found. */
    private static void findLooksAtThePageAlone() {
        Counted x = Bench.with(DRAFT, new int[][] {{51, 52}}, PAGE);
        for (int value : Bench.bytes(41, 44, 51, 52, 0, 30, 34)) {
            findOnce(x, value, 0, -1);
        }
    }

    /** at, length, blocks and find answer and change nothing, with right arguments and wrong ones. */
    private static void lookingChangesNothing() {
        for (int blocks = 0; blocks <= 4; blocks++) {
            int[][] queue = Bench.someBlocks(blocks);
            Counted x = Bench.with(DRAFT, queue, PAGE);
            for (int number : Bench.bytes(MIN, -1, 0, 1, 2, 3, 31, 48, MAX)) {
                x.at(number);
                x.find(number, number);
                x.find(32, number);
                x.length();
                x.blocks();
            }
            Bench.holds("looked at, " + blocks + " blocks", x, DRAFT, queue, PAGE);
        }
    }

    /** "The page becomes the draft", when it is empty: so is the draft then. */
    private static void editOfAnEmptyPage() {
        Counted fresh = Bench.withDraft(DRAFT);
        fresh.edit();
        Check.due("repeat after edit of no page", fresh.repeat(1, 1), -1);
        Bench.holds("edit of no page", fresh, NONE, new int[0][], NONE);

        Counted received = Bench.with(Bench.row(48, 1, 1), new int[][] {{}}, PAGE);
        received.receive();
        received.edit();
        Check.due("put after edit of an empty page", received.put(5), 1);
        Bench.holds("edit of an empty page", received, Bench.bytes(5), new int[0][], NONE);
    }

    /** "the draft has the bytes of the page then, and no others": a shorter, an equal and a longer draft. */
    private static void editOverEveryLength() {
        int[] lengths = {0, 1, 2, 24, 47, 48};
        for (int pageLength : lengths) {
            for (int draftLength : lengths) {
                int[] page = Bench.row(pageLength, 3, 1);
                Counted x = Bench.with(Bench.row(draftLength, 100, 1), new int[0][], page);
                x.edit();
                String what = "edit of " + pageLength + " over " + draftLength;
                Check.due(what + ": repeat before the first byte", x.repeat(pageLength + 1, 1), -1);
                Bench.holds(what, x, page, new int[0][], page);
                Check.due(what + ": put", x.put(1), pageLength < 48 ? pageLength + 1 : -1);
            }
        }
    }

    /** A page of 48 bytes makes a draft that is full. */
    private static void editOfAFullPage() {
        int[] full = Bench.row(48, 130, 1);
        Counted x = Bench.with(DRAFT, new int[0][], full);
        x.edit();
        Check.due("put after edit of 48 bytes", x.put(1), -1);
        Check.due("repeat after edit of 48 bytes", x.repeat(48, 1), -1);
        Bench.holds("edit of 48 bytes", x, full, new int[0][], full);
    }

    /** "the page stays as it is", and so does the queue, empty or full. */
    private static void editLeavesThePageAndTheQueue() {
        for (int blocks = 0; blocks <= 4; blocks++) {
            int[][] queue = Bench.someBlocks(blocks);
            Counted x = Bench.with(DRAFT, queue, PAGE);
            x.edit();
            x.edit();
            Check.due("find after edit", x.find(33, 0), 2);
            Bench.holds("edit, " + blocks + " blocks", x, PAGE, queue, PAGE);
        }
    }

    /** "the page stays as it is": also when the draft made of it is changed afterwards. */
    private static void editedDraftIsApartFromThePage() {
        Counted x = Bench.withPage(PAGE);
        x.edit();
        Check.due("put after edit", x.put(34), 4);
        Bench.pageIs("put after edit", x, PAGE);
        Check.due("repeat after edit", x.repeat(4, 8), 12);
        Bench.pageIs("repeat after edit", x, PAGE);
        x.erase();
        Bench.pageIs("erase after edit", x, PAGE);
        Bench.putAll(x, 1, 2, 3, 4, 5);
        Bench.holds("a new draft after edit", x, Bench.row(5, 1, 1), new int[0][], PAGE);
    }

    /** "the bytes of the page then": a later page does not reach the draft. */
    private static void editTakesThePageOfThatTime() {
        Counted x = Bench.with(DRAFT, new int[][] {{1, 2, 3, 4, 5}, {6}}, PAGE);
        x.edit();
        Check.due("receive() after edit", x.receive(), 5);
        Bench.holds("a later page", x, PAGE, new int[][] {{6}}, Bench.row(5, 1, 1));
    }
}
