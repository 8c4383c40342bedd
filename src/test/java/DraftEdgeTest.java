import java.util.Arrays;

/** Each sentence of the document that names a boundary of the draft: promises 1 to 4 and the terms. */
public final class DraftEdgeTest {
    private static final int MIN = Integer.MIN_VALUE;
    private static final int MAX = Integer.MAX_VALUE;
    private static final int[] NONE = {};
    private static final int[] PAGE = {31, 32, 33};

    private DraftEdgeTest() {
    }

    public static void main(String[] args) {
        draftIsEmptyAtTheStart();
        draftHasEveryLength();
        draftHasEveryByte();
        putTakesTheLowEightBits();
        putFillsTheLastPlace();
        putRefusedChangesNothing();
        repeatAtEveryLengthOfTheDraft();
        repeatInAnEmptyDraft();
        repeatInAFullDraft();
        repeatCopiesBytesJustPut();
        repeatRefusedChangesNothing();
        eraseOfAnEmptyDraft();
        eraseOfAFullDraft();
        eraseLeavesTheRest();
        Check.end();
    }

    /** "THE DRAFT is a row of 0 to 48 bytes, empty at the start." */
    private static void draftIsEmptyAtTheStart() {
        Bench.holds("new object", new Counted(), NONE, new int[0][], NONE);
        Check.due("new object: the first put", new Counted().put(0), 1);
        Check.due("new object: repeat(1, 1)", new Counted().repeat(1, 1), -1);
        Check.due("new object: repeat(0, 1)", new Counted().repeat(0, 1), -1);
    }

    /** "a row of 0 to 48 bytes": every length, with bytes all different and all the same. */
    private static void draftHasEveryLength() {
        for (int length = 0; length <= 48; length++) {
            int[] different = Bench.row(length, 90, 5);
            Bench.draftIs(length + " different bytes", Bench.withDraft(different), different);
            int[] same = Bench.row(length, 255, 0);
            Bench.draftIs(length + " equal bytes", Bench.withDraft(same), same);
        }
    }

    /** "bytes (0 to 255)": every one, alone and in a row that repeats. */
    private static void draftHasEveryByte() {
        for (int value = 0; value <= 255; value++) {
            Bench.draftIs("byte " + value, Bench.withDraft(value), value);
            Counted x = Bench.withDraft(value, value ^ 1);
            x.repeat(2, 5);
            int other = value ^ 1;
            Bench.draftIs("byte " + value + " again", x, value, other, value, other, value, other, value);
        }
    }

    /** "Puts value & 255 at the end of the draft." */
    private static void putTakesTheLowEightBits() {
        int[][] values = {
            {-1, 255}, {-2, 254}, {-127, 129}, {-128, 128}, {-129, 127}, {-255, 1}, {-256, 0}, {-257, 255},
            {0, 0}, {127, 127}, {128, 128}, {254, 254}, {255, 255}, {256, 0}, {257, 1}, {511, 255}, {512, 0},
            {65535, 255}, {65536, 0}, {MIN, 0}, {MIN + 1, 1}, {MAX, 255}, {MAX - 1, 254},
        };
        for (int[] pair : values) {
            Counted x = Bench.withDraft(7);
            Check.due("put(" + pair[0] + ")", x.put(pair[0]), 2);
            Bench.draftIs("put(" + pair[0] + ")", x, 7, pair[1]);
        }
    }

    /** "else how many it has then": up to the 48th. */
    private static void putFillsTheLastPlace() {
        Counted x = Bench.withDraft(Bench.row(46, 1, 1));
        Check.due("the 47th put", x.put(47), 47);
        Check.due("the 48th put", x.put(48), 48);
        Check.due("the 49th put", x.put(49), -1);
        Bench.draftIs("48 puts", x, Bench.row(48, 1, 1));
    }

    /** put "Answers -1 and changes nothing if it has 48 bytes". */
    private static void putRefusedChangesNothing() {
        int[] full = Bench.row(48, 3, 7);
        for (int value : Bench.bytes(0, 3, 255, -1, 256, MIN, MAX)) {
            for (int blocks = 0; blocks <= 4; blocks++) {
                int[][] queue = Bench.someBlocks(blocks);
                Counted x = Bench.with(full, queue, PAGE);
                String call = "put(" + value + ") into 48 bytes, " + blocks + " blocks";
                Check.due(call, x.put(value), -1);
                Check.due(call + ", again", x.put(value), -1);
                Bench.holds(call, x, full, queue, PAGE);
                x.erase();
                Check.due(call + ": put after erase", x.put(5), 1);
            }
        }
        fullInOtherWays();
    }

    private static void fullInOtherWays() {
        Counted x = Bench.withDraft(9);
        x.repeat(1, 47);
        Check.due("put into 48 bytes by repeat", x.put(1), -1);
        Bench.draftIs("48 bytes by repeat", x, Bench.row(48, 9, 0));
        x.erase();
        x.edit();
        Check.due("put into 48 bytes by edit", x.put(1), -1);
        Bench.draftIs("48 bytes by edit", x, Bench.row(48, 9, 0));
    }

    /** All of repeat's limits, for every length of the draft, just inside, just outside and far outside. */
    private static void repeatAtEveryLengthOfTheDraft() {
        for (int length = 0; length <= 48; length++) {
            int room = 48 - length;
            int[] distances = {MIN, -48, -1, 0, 1, 2, length - 1, length, length + 1, 48, 49, MAX};
            int[] counts = {MIN, -1, 0, 1, 2, room - 1, room, room + 1, 48, 49, MAX - 48, MAX - length, MAX};
            for (int distance : distances) {
                for (int count : counts) {
                    repeatOnce(Bench.row(length, 17, 3), distance, count);
                }
            }
        }
    }

    /** "Answers -1 and changes nothing if ...; else how many it has then", as the document's words have it. */
    private static void repeatOnce(int[] draft, int distance, int count) {
        boolean refused = distance < 1 || distance > draft.length
            || count < 1 || (long) draft.length + count > 48;
        int[] due = refused ? draft : Arrays.copyOf(draft, draft.length + count);
        for (int i = draft.length; i < due.length; i++) {
            due[i] = due[i - distance];
        }
        Counted x = Bench.withDraft(draft);
        String call = "repeat(" + distance + ", " + count + ") with " + draft.length + " bytes";
        Check.due(call, x.repeat(distance, count), refused ? -1 : due.length);
        Bench.draftIs(call, x, due);
    }

    /** "if distance is not from 1 to the number of bytes of the draft": no distance is right in an empty one. */
    private static void repeatInAnEmptyDraft() {
        for (int distance : Bench.bytes(MIN, -1, 0, 1, 2, 48, MAX)) {
            // An old byte before the end would betray itself as one that can be copied.
            Counted x = Bench.withDraft(1, 2, 3);
            x.erase();
            Check.due("repeat(" + distance + ", 1) in an erased draft", x.repeat(distance, 1), -1);
            Check.due("repeat(" + distance + ", 0) in an erased draft", x.repeat(distance, 0), -1);
            Check.due("put behind it", x.put(8), 1);
            Bench.draftIs("repeat(" + distance + ", 1) in an erased draft", x, 8);
        }
    }

    /** "or the draft would have more than 48 bytes". */
    private static void repeatInAFullDraft() {
        int[] full = Bench.row(48, 60, 3);
        for (int distance : Bench.bytes(1, 24, 48)) {
            for (int count : Bench.bytes(MIN, -1, 0, 1, 2, 48, MAX)) {
                repeatOnce(full, distance, count);
            }
        }
        Counted x = Bench.withDraft(Bench.row(47, 60, 3));
        Check.due("repeat(47, 2) with 47 bytes", x.repeat(47, 2), -1);
        Check.due("repeat(47, 1) with 47 bytes", x.repeat(47, 1), 48);
    }

    /** "byte after byte, so that bytes that have just been put may be copied again": every distance. */
    private static void repeatCopiesBytesJustPut() {
        for (int length = 1; length <= 47; length++) {
            for (int distance = 1; distance <= length; distance++) {
                repeatOnce(Bench.row(length, 200, 1), distance, 48 - length);
            }
        }
    }

    /** The four causes of a refusal, one at a time and together, with something in every place. */
    private static void repeatRefusedChangesNothing() {
        int[] draft = {5, 6, 7};
        int[][] wrong = {
            {0, 1}, {-1, 1}, {MIN, 1}, {4, 1}, {48, 1}, {MAX, 1},
            {1, 0}, {1, -1}, {1, MIN}, {1, 46}, {3, 46}, {1, MAX}, {3, MAX - 2}, {3, MAX - 3},
            {0, 0}, {0, 46}, {4, 0}, {4, 46}, {MIN, MIN}, {MIN, MAX}, {MAX, MIN}, {MAX, MAX},
        };
        for (int[] pair : wrong) {
            for (int blocks = 0; blocks <= 4; blocks++) {
                int[][] queue = Bench.someBlocks(blocks);
                Counted x = Bench.with(draft, queue, PAGE);
                String call = "repeat(" + pair[0] + ", " + pair[1] + ") refused, " + blocks + " blocks";
                Check.due(call, x.repeat(pair[0], pair[1]), -1);
                Bench.holds(call, x, draft, queue, PAGE);
                Check.due(call + ": a right one behind it", x.repeat(3, 45), 48);
            }
        }
    }

    /** "Makes the draft empty", when it is so already. */
    private static void eraseOfAnEmptyDraft() {
        Counted x = new Counted();
        x.erase();
        x.erase();
        Bench.holds("erase of a new object", x, NONE, new int[0][], NONE);
    }

    /** "Makes the draft empty", when it is full. */
    private static void eraseOfAFullDraft() {
        Counted x = Bench.withDraft(Bench.row(48, 1, 1));
        x.erase();
        Check.due("repeat of erased bytes", x.repeat(48, 1), -1);
        Check.due("repeat of an erased byte", x.repeat(1, 1), -1);
        for (int i = 0; i < 48; i++) {
            Check.due("put after erase", x.put(100 + i), i + 1);
        }
        Check.due("the 49th put after erase", x.put(1), -1);
        Bench.draftIs("filled again", x, Bench.row(48, 100, 1));
    }

    /** erase changes the draft alone: the queue and the page stay. */
    private static void eraseLeavesTheRest() {
        for (int blocks = 0; blocks <= 4; blocks++) {
            int[][] queue = Bench.someBlocks(blocks);
            Counted x = Bench.with(Bench.bytes(1, 2, 3), queue, PAGE);
            x.erase();
            Bench.holds("erase, " + blocks + " blocks", x, NONE, queue, PAGE);
        }
    }
}
