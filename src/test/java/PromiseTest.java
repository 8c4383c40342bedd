/** Each promise of the document by its number: ordinary inputs, edges and wrong inputs. */
public final class PromiseTest {
    private static final int MIN = Integer.MIN_VALUE;
    private static final int MAX = Integer.MAX_VALUE;

    private PromiseTest() {
    }

    public static void main(String[] args) {
        promise1NewObject();
        promise2Put();
        promise3RepeatCopies();
        promise3RepeatRefuses();
        promise4Erase();
        promise5Send();
        promise6Receive();
        promise7At();
        promise8Length();
        promise9Blocks();
        promise10Find();
        promise11Edit();
        promise12OrderAndLimits();
        Check.end();
    }

    private static void promise1NewObject() {
        Check.due("1: blocks()", new Counted().blocks(), 0);
        Check.due("1: receive()", new Counted().receive(), -1);
        Check.due("1: put(0)", new Counted().put(0), 1);
        Check.due("1: repeat(1, 1)", new Counted().repeat(1, 1), -1);
        Check.due("1: find(0, 0)", new Counted().find(0, 0), -1);
        Bench.pageIs("1: the page", new Counted());
        Bench.draftIs("1: the draft", new Counted());
        Counted one = Bench.withPage(1, 2, 3);
        Counted other = new Counted();
        Bench.pageIs("1: another object", other);
        Bench.pageIs("1: the first object", one, 1, 2, 3);
    }

    private static void promise2Put() {
        Counted x = new Counted();
        int[] values = {0, 255, 256, -1, 127, 128, -128, 511, MIN, MAX};
        for (int i = 0; i < values.length; i++) {
            Check.due("2: put(" + values[i] + ")", x.put(values[i]), i + 1);
        }
        Bench.draftIs("2: value & 255", x, 0, 255, 0, 255, 127, 128, 128, 255, 0, 255);

        Counted full = new Counted();
        int[] bytes = Bench.row(48, 200, 3);
        for (int i = 0; i < 48; i++) {
            Check.due("2: put", full.put(bytes[i]), i + 1);
        }
        Check.due("2: put into 48 bytes", full.put(9), -1);
        Check.due("2: put into 48 bytes again", full.put(MIN), -1);
        Bench.draftIs("2: full draft unchanged", full, bytes);
    }

    private static void promise3RepeatCopies() {
        Counted x = Bench.withDraft(1, 2, 3, 4);
        Check.due("3: repeat(3, 2)", x.repeat(3, 2), 6);
        Bench.draftIs("3: shorter than the distance", x, 1, 2, 3, 4, 2, 3);

        x = Bench.withDraft(1, 2, 3);
        Check.due("3: repeat(3, 3)", x.repeat(3, 3), 6);
        Bench.draftIs("3: the whole draft", x, 1, 2, 3, 1, 2, 3);

        x = Bench.withDraft(9, 1, 2);
        Check.due("3: repeat(2, 5)", x.repeat(2, 5), 8);
        Bench.draftIs("3: bytes just put are copied again", x, 9, 1, 2, 1, 2, 1, 2, 1);

        x = Bench.withDraft(255);
        Check.due("3: repeat(1, 47)", x.repeat(1, 47), 48);
        Bench.draftIs("3: up to 48 bytes", x, Bench.row(48, 255, 0));

        x = Bench.withDraft(Bench.row(47, 0, 1));
        Check.due("3: repeat(47, 1)", x.repeat(47, 1), 48);
        Check.due("3: repeat in 48 bytes", x.repeat(48, 1), -1);
    }

    private static void promise3RepeatRefuses() {
        int[][] wrong = {
            {0, 1}, {-1, 1}, {4, 1}, {MIN, 1}, {MAX, 1},
            {1, 0}, {1, -1}, {1, MIN}, {1, 46}, {1, MAX}, {3, MAX - 2},
            {0, 0}, {4, 46}, {MIN, MIN}, {MAX, MAX},
        };
        for (int[] pair : wrong) {
            Counted x = Bench.withDraft(5, 6, 7);
            String call = "3: repeat(" + pair[0] + ", " + pair[1] + ")";
            Check.due(call, x.repeat(pair[0], pair[1]), -1);
            Bench.draftIs(call, x, 5, 6, 7);
        }
        Counted x = Bench.withDraft(5, 6, 7);
        Check.due("3: repeat(1, 45)", x.repeat(1, 45), 48);
    }

    private static void promise4Erase() {
        Counted x = Bench.withDraft(1, 2, 3);
        x.erase();
        Check.due("4: repeat in an erased draft", x.repeat(1, 1), -1);
        Bench.draftIs("4: erased", x);
        x = Bench.withDraft(Bench.row(48, 1, 1));
        x.erase();
        x.erase();
        Check.due("4: put after erase", x.put(7), 1);
        Bench.draftIs("4: begun again", x, 7);

        x = Bench.withPage(4, 5);
        Bench.putAll(x, 6);
        x.send();
        x.erase();
        Bench.pageIs("4: the page stays", x, 4, 5);
        Check.due("4: the queue stays", x.blocks(), 1);
        Check.due("4: the block stays", x.receive(), 1);
        Bench.pageIs("4: the block stays", x, 6);
    }

    private static void promise5Send() {
        Counted x = Bench.withPage(77);
        Bench.putAll(x, 1, 2, 3);
        Check.due("5: send()", x.send(), 1);
        Bench.pageIs("5: the page stays", x, 77);
        Check.due("5: the draft stays", x.put(4), 4);
        Check.due("5: send()", x.send(), 2);
        x.erase();
        Check.due("5: send() of an empty draft", x.send(), 3);
        Bench.putAll(x, Bench.row(48, 0, 5));
        Check.due("5: send()", x.send(), 4);
        x.erase();
        Bench.putAll(x, 99);
        Check.due("5: send() into 4 blocks", x.send(), -1);
        Check.due("5: blocks()", x.blocks(), 4);
        Bench.pageIs("5: the page after a refusal", x, 77);
        x.receive();
        Bench.pageIs("5: block 1", x, 1, 2, 3);
        Check.due("5: send() into the free place", x.send(), 4);
        x.receive();
        Bench.pageIs("5: block 2", x, 1, 2, 3, 4);
        x.receive();
        Bench.pageIs("5: block 3", x);
        x.receive();
        Bench.pageIs("5: block 4", x, Bench.row(48, 0, 5));
        x.receive();
        Bench.pageIs("5: the draft after a refusal", x, 99);
        Check.due("5: blocks()", x.blocks(), 0);
    }

    private static void promise6Receive() {
        Counted x = new Counted();
        Check.due("6: receive() of an empty queue", x.receive(), -1);
        for (int round = 0; round < 9; round++) {
            for (int block = 0; block < 3; block++) {
                x.erase();
                Bench.putAll(x, Bench.row(block + 1, round * 10 + block, 7));
                Check.due("6: send()", x.send(), block + 1);
            }
            for (int block = 0; block < 3; block++) {
                Check.due("6: receive()", x.receive(), block + 1);
                Bench.pageIs("6: oldest first", x, Bench.row(block + 1, round * 10 + block, 7));
                Check.due("6: blocks()", x.blocks(), 2 - block);
            }
        }
        Check.due("6: receive() of an emptied queue", x.receive(), -1);
        Bench.pageIs("6: the page after a refusal", x, Bench.row(3, 82, 7));
        Check.due("6: the draft stays", x.put(1), 4);

        x = Bench.withPage(1, 2, 3);
        x.send();
        Check.due("6: receive() of an empty block", x.receive(), 0);
        Bench.pageIs("6: an empty block becomes the page", x);
    }

    private static void promise7At() {
        Counted x = Bench.withPage(0, 127, 128, 255);
        Bench.pageIs("7: at", x, 0, 127, 128, 255);
        int[] wrong = {-1, 4, 47, 48, 49, MIN, MAX};
        for (int place : wrong) {
            Check.due("7: at(" + place + ")", x.at(place), -1);
        }
        x = Bench.withPage(Bench.row(48, 255, -5));
        Bench.pageIs("7: a page of 48 bytes", x, Bench.row(48, 255, -5));
        x.put(3);
        x.send();
        x.receive();
        Bench.pageIs("7: a short page after a long one", x, 3);
        Check.due("7: at(47)", x.at(47), -1);
    }

    private static void promise8Length() {
        for (int count = 0; count <= 48; count++) {
            Counted x = Bench.withPage(Bench.row(count, 10, 0));
            Check.due("8: length()", x.length(), count);
            x.put(1);
            x.send();
            Check.due("8: length() after put and send", x.length(), count);
        }
    }

    private static void promise9Blocks() {
        Counted x = new Counted();
        for (int count = 1; count <= 4; count++) {
            x.send();
            Check.due("9: blocks()", x.blocks(), count);
        }
        x.send();
        Check.due("9: blocks() after a refusal", x.blocks(), 4);
        for (int count = 3; count >= 0; count--) {
            x.receive();
            Check.due("9: blocks()", x.blocks(), count);
        }
        x.receive();
        Check.due("9: blocks() after a refusal", x.blocks(), 0);
    }

    private static void promise10Find() {
        Counted x = Bench.withPage(0, 255, 7, 255, 0);
        int[][] calls = {
            {0, 0, 0}, {0, 1, 4}, {0, 4, 4}, {0, 5, -1}, {0, MAX, -1}, {0, 48, -1},
            {255, 0, 1}, {255, 1, 1}, {255, 2, 3}, {255, 4, -1}, {-1, 0, 1},
            {7, -1, 2}, {7, MIN, 2}, {7, 3, -1}, {263, 0, 2}, {7 - 256, 0, 2},
            {8, 0, -1}, {MIN, 1, 4}, {MAX, 2, 3},
        };
        for (int[] call : calls) {
            String text = "10: find(" + call[0] + ", " + call[1] + ")";
            Check.due(text, x.find(call[0], call[1]), call[2]);
        }
        x = Bench.withPage(Bench.row(48, 200, 1));
        Check.due("10: the last place", x.find(247, 0), 47);
        Check.due("10: the last place from itself", x.find(247, 47), 47);
        x.send();
        x.receive();
        Check.due("10: nothing of an older page", x.find(247, 0), -1);
        x.put(247);
        Check.due("10: nothing of the draft", x.find(247, 0), -1);
    }

    private static void promise11Edit() {
        Counted x = Bench.withPage(1, 200, 3);
        x.edit();
        Check.due("11: put", x.put(4), 4);
        Check.due("11: repeat", x.repeat(4, 4), 8);
        Bench.draftIs("11: the page became the draft", x, 1, 200, 3, 4, 1, 200, 3, 4);

        x = Bench.withPage(Bench.row(48, 0, 1));
        x.edit();
        Check.due("11: put into 48 bytes", x.put(1), -1);
        Bench.draftIs("11: 48 bytes", x, Bench.row(48, 0, 1));
    }

    private static void promise12OrderAndLimits() {
        Counted x = Bench.withPage(1, 2);
        Bench.putAll(x, 9, 8, 7, 6, 5);
        x.edit();
        Bench.pageIs("12: the page stays", x, 1, 2);
        Check.due("12: no bytes of the old draft", x.repeat(3, 1), -1);
        x.put(50);
        x.repeat(1, 3);
        Bench.pageIs("12: the page stays when the draft grows", x, 1, 2);
        x.erase();
        x.put(60);
        Bench.pageIs("12: the page stays when the draft is begun again", x, 1, 2);
        x.edit();
        x.edit();
        Bench.draftIs("12: edit twice", x, 1, 2);

        x = Bench.withDraft(1, 2, 3);
        x.edit();
        Bench.draftIs("12: an empty page empties the draft", x);

        x = Bench.withDraft(1);
        x.send();
        x.put(2);
        x.send();
        x.receive();
        x.edit();
        Check.due("12: edit leaves the queue", x.blocks(), 1);
        Check.due("12: receive() after edit", x.receive(), 2);
        Bench.pageIs("12: the next page", x, 1, 2);
        Check.due("12: receive leaves the draft", x.put(5), 2);
    }
}
