import java.lang.reflect.Field;

/** Promise 5 says that a draft is squeezed: looks inside the object at how long its block is. */
public final class SqueezeTest {
    private SqueezeTest() {
    }

    public static void main(String[] args) throws ReflectiveOperationException {
        SqueezeQueue same = new SqueezeQueue();
        same.put(200);
        same.repeat(1, 47);
        Check.due("48 equal bytes", blockLength(same), 4);

        SqueezeQueue pattern = new SqueezeQueue();
        for (int value = 1; value <= 6; value++) {
            pattern.put(value);
        }
        pattern.repeat(6, 42);
        Check.due("6 bytes 8 times", blockLength(pattern), 9);

        SqueezeQueue different = new SqueezeQueue();
        for (int value = 0; value < 48; value++) {
            different.put(value * 5);
        }
        Check.due("48 different bytes", blockLength(different), 49);

        // Copies of two bytes would cost more than they save: they are not made.
        SqueezeQueue pairs = new SqueezeQueue();
        for (int value = 0; value < 12; value++) {
            pairs.put(1);
            pairs.put(2);
            pairs.put(100 + value);
            pairs.put(200 + value);
        }
        Check.due("short repeats", blockLength(pairs), 49);
        comesBack("short repeats", pairs, 211);

        // The worst that copies can do: each of three bytes, with one plain byte between.
        SqueezeQueue triples = new SqueezeQueue();
        for (int value = 0; value < 12; value++) {
            triples.put(1);
            triples.put(2);
            triples.put(3);
            triples.put(100 + value);
        }
        Check.due("repeats of three", blockLength(triples), 49);
        comesBack("repeats of three", triples, 111);

        SqueezeQueue twice = new SqueezeQueue();
        for (int value = 1; value <= 3; value++) {
            twice.put(value);
        }
        twice.repeat(3, 3);
        Check.due("three bytes twice", blockLength(twice), 6);

        Check.due("no bytes", blockLength(new SqueezeQueue()), 0);
        Check.end();
    }

    /** A block too long for its place would be cut: then its last byte is missing. */
    private static void comesBack(String what, SqueezeQueue x, int last) {
        Check.due(what + ": receive()", x.receive(), 48);
        Check.due(what + ": at(47)", x.at(47), last);
    }

    private static int blockLength(SqueezeQueue x) throws ReflectiveOperationException {
        x.send();
        Field lengths = SqueezeQueue.class.getDeclaredField("squeezedLength");
        lengths.setAccessible(true);
        return ((int[]) lengths.get(x))[0];
    }
}
