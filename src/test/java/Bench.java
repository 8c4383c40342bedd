/** Brings objects into a state and looks at all they hold; shared by the tests. */
final class Bench {
    private Bench() {
    }

    static int[] bytes(int... values) {
        return values;
    }

    static int[] row(int count, int first, int step) {
        int[] bytes = new int[count];
        for (int i = 0; i < count; i++) {
            bytes[i] = first + i * step & 255;
        }
        return bytes;
    }

    /** Blocks that differ in length and in every byte. */
    static int[][] someBlocks(int count) {
        int[][] blocks = new int[count][];
        for (int i = 0; i < count; i++) {
            blocks[i] = row(i + 2, 130 + 20 * i, 1);
        }
        return blocks;
    }

    static Counted withDraft(int... bytes) {
        Counted x = new Counted();
        putAll(x, bytes);
        return x;
    }

    static Counted withPage(int... bytes) {
        return with(new int[0], new int[0][], bytes);
    }

    static Counted with(int[] draft, int[][] queue, int[] page) {
        Counted x = new Counted();
        fill(x, draft, queue, page);
        return x;
    }

    /** The same, after so many blocks have gone through the queue. */
    static Counted turned(int turns, int[] draft, int[][] queue, int[] page) {
        Counted x = new Counted();
        for (int i = 0; i < turns; i++) {
            x.put(i);
            x.send();
            x.receive();
        }
        fill(x, draft, queue, page);
        return x;
    }

    private static void fill(Counted x, int[] draft, int[][] queue, int[] page) {
        sendAll(x, page);
        x.receive();
        for (int[] block : queue) {
            sendAll(x, block);
        }
        x.erase();
        putAll(x, draft);
    }

    private static void sendAll(Counted x, int... bytes) {
        x.erase();
        putAll(x, bytes);
        x.send();
    }

    static void putAll(Counted x, int... bytes) {
        for (int value : bytes) {
            x.put(value);
        }
    }

    static void pageIs(String what, Counted x, int... bytes) {
        Check.due(what + ": length()", x.length(), bytes.length);
        Check.due(what + ": at(-1)", x.at(-1), -1);
        for (int i = 0; i < bytes.length; i++) {
            Check.due(what + ": at(" + i + ")", x.at(i), bytes[i]);
        }
        Check.due(what + ": at behind the end", x.at(bytes.length), -1);
    }

    /** Looks at the draft by sending it; the queue has to be empty, and the page is lost. */
    static void draftIs(String what, Counted x, int... bytes) {
        Check.due(what + ": send()", x.send(), 1);
        Check.due(what + ": receive()", x.receive(), bytes.length);
        pageIs(what, x, bytes);
    }

    /** Looks at all that x holds; afterwards the queue is empty and the page is the draft. */
    static void holds(String what, Counted x, int[] draft, int[][] queue, int[] page) {
        pageIs(what + ", the page", x, page);
        Check.due(what + ": blocks()", x.blocks(), queue.length);
        for (int i = 0; i < queue.length; i++) {
            Check.due(what + ": receive()", x.receive(), queue[i].length);
            pageIs(what + ", block " + i, x, queue[i]);
        }
        Check.due(what + ": receive() of the emptied queue", x.receive(), -1);
        draftIs(what + ", the draft", x, draft);
    }
}
