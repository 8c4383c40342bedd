/** "An object is used for at most 512 calls", and LANGUAGE.md's rule 7: no call throws, whatever came before it. */
public final class LimitTest {
    private static final int[] NUMBERS = {
        Integer.MIN_VALUE, Integer.MIN_VALUE + 1, -256, -49, -48, -1, 0, 1, 2, 3, 47, 48, 49, 255, 256,
        Integer.MAX_VALUE - 48, Integer.MAX_VALUE - 1, Integer.MAX_VALUE,
    };

    private LimitTest() {
    }

    public static void main(String[] args) {
        answersUpToTheLastCall();
        roundsUpToTheLastCall();
        refusalsUpToTheLastCall();
        nothingThrowsInAnyState();
        nothingThrowsBehindTheLastCall();
        objectsShareNothing();
        Check.end();
    }

    /** An object whose next call is the last but so many. */
    private static Counted before(int left) {
        Counted x = Bench.with(Bench.bytes(1, 2, 3), Bench.someBlocks(3), Bench.bytes(7, 8));
        while (x.calls() < Counted.MOST_CALLS - left) {
            x.length();
        }
        return x;
    }

    /** Each call as the 512th; erase and edit just before it, as they answer nothing. */
    private static void answersUpToTheLastCall() {
        Check.due("put as the 512th call", before(1).put(9), 4);
        Check.due("repeat as the 512th call", before(1).repeat(3, 45), 48);
        Check.due("send as the 512th call", before(1).send(), 4);
        Check.due("receive as the 512th call", before(1).receive(), 2);
        Check.due("at as the 512th call", before(1).at(1), 8);
        Check.due("length as the 512th call", before(1).length(), 2);
        Check.due("blocks as the 512th call", before(1).blocks(), 3);
        Check.due("find as the 512th call", before(1).find(8, 0), 1);
        Counted erased = before(2);
        erased.erase();
        Check.due("put behind erase as the 512th call", erased.put(9), 1);
        Counted edited = before(2);
        edited.edit();
        Check.due("put behind edit as the 512th call", edited.put(9), 3);
    }

    /** As many blocks as 512 calls can send and receive. */
    private static void roundsUpToTheLastCall() {
        Counted x = new Counted();
        while (x.calls() < Counted.MOST_CALLS) {
            Check.due("send() in call " + x.calls(), x.send(), 1);
            Check.due("receive() in call " + x.calls(), x.receive(), 0);
        }
        Counted full = new Counted();
        for (int i = 0; i < 4; i++) {
            full.put(i);
            full.send();
        }
        for (int i = 1; full.calls() < Counted.MOST_CALLS; i++) {
            Check.due("receive() from a full queue", full.receive(), i < 4 ? i : 4);
            Check.due("send() into its free place", full.send(), 4);
        }
    }

    /** A refused call that is made over and over stays refused. */
    private static void refusalsUpToTheLastCall() {
        Counted put = Bench.withDraft(Bench.row(48, 0, 1));
        Counted repeat = new Counted();
        Counted send = Bench.with(new int[0], Bench.someBlocks(4), new int[0]);
        Counted receive = new Counted();
        for (int i = 0; i < 450; i++) {
            Check.due("put into 48 bytes", put.put(i), -1);
            Check.due("repeat in an empty draft", repeat.repeat(1, 1), -1);
            Check.due("send() into 4 blocks", send.send(), -1);
            Check.due("receive() of an empty queue", receive.receive(), -1);
        }
        Check.due("send after refused receives", receive.send(), 1);
        Check.due("put after refused repeats", repeat.put(1), 1);
        Check.due("receive after refused sends", send.receive(), 2);
        put.erase();
        Check.due("put after refused puts", put.put(1), 1);
    }

    /** Every call with every pair of odd numbers, with drafts, queues and pages from empty to full. */
    private static void nothingThrowsInAnyState() {
        int[] lengths = {0, 1, 47, 48};
        for (int draft : lengths) {
            for (int blocks = 0; blocks <= 4; blocks++) {
                for (int page : lengths) {
                    everyCall(draft, blocks, page);
                }
            }
        }
    }

    private static void everyCall(int draft, int blocks, int page) {
        for (int first : NUMBERS) {
            SqueezeQueue x = inState(draft, blocks, page);
            x.at(first);
            x.put(first);
            x.edit();
            for (int second : NUMBERS) {
                x.find(first, second);
                x.repeat(first, second);
                x.put(second);
            }
            x.send();
            x.receive();
            x.erase();
            staysInside("after odd numbers", x);
        }
    }

    private static SqueezeQueue inState(int draft, int blocks, int page) {
        SqueezeQueue x = new SqueezeQueue();
        putSome(x, page);
        x.send();
        x.receive();
        for (int i = 0; i < blocks; i++) {
            x.send();
        }
        x.erase();
        putSome(x, draft);
        return x;
    }

    private static void putSome(SqueezeQueue x, int count) {
        for (int i = 0; i < count; i++) {
            x.put(i);
        }
    }

    private static void staysInside(String what, SqueezeQueue x) {
        int length = x.length();
        int blocks = x.blocks();
        Check.that(what + ": a page of 0 to 48 bytes", length >= 0 && length <= 48);
        Check.that(what + ": a queue of 0 to 4 blocks", blocks >= 0 && blocks <= 4);
    }

    /**
     * "nothing about an object after its 512th call" is promised, but rule 7 knows no last call:
     * no answer is looked at here, and a call that throws ends the test with exit code 1.
     */
    private static void nothingThrowsBehindTheLastCall() {
        SqueezeQueue x = new SqueezeQueue();
        for (int i = 0; i < 100000; i++) {
            int number = NUMBERS[i % NUMBERS.length];
            switch (i % 11) {
                case 0 -> x.repeat(number, i % 50);
                case 1 -> x.repeat(i % 50, number);
                case 2, 3 -> x.send();
                case 4, 5 -> x.receive();
                case 6 -> x.at(number);
                case 7 -> x.find(number, i % 50);
                case 8 -> x.find(i, number);
                case 9 -> rarely(x, i);
                default -> x.put(number);
            }
        }
    }

    private static void rarely(SqueezeQueue x, int i) {
        if (i % 5 == 0) {
            x.erase();
        } else if (i % 5 == 1) {
            x.edit();
        }
    }

    /** A new object begins as promised, whatever was done to others. */
    private static void objectsShareNothing() {
        Counted one = Bench.with(Bench.bytes(1, 2, 3), Bench.someBlocks(4), Bench.bytes(7, 8));
        Counted other = Bench.with(Bench.bytes(4, 5), Bench.someBlocks(2), Bench.bytes(9));
        Bench.holds("a new object beside others", new Counted(), new int[0], new int[0][], new int[0]);
        Bench.holds("the first object", one, Bench.bytes(1, 2, 3), Bench.someBlocks(4), Bench.bytes(7, 8));
        Bench.holds("the second object", other, Bench.bytes(4, 5), Bench.someBlocks(2), Bench.bytes(9));
    }
}
