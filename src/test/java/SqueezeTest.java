import java.lang.reflect.Field;

/** Promise 5 says that a draft is squeezed: looks inside the object at how long its block is. */
public final class SqueezeTest {
    private SqueezeTest() {
    }

    public static void main(String[] args) throws ReflectiveOperationException {
        SqueezeQueue same = new SqueezeQueue();
        same.put(200);
        same.repeat(1, 47);
        Check.due("48 equal bytes", blockLength(same), 4);

        SqueezeQueue pattern = new SqueezeQueue();
        for (int value = 1; value <= 6; value++) {
            pattern.put(value);
        }
        pattern.repeat(6, 42);
        Check.due("6 bytes 8 times", blockLength(pattern), 9);

        SqueezeQueue different = new SqueezeQueue();
        for (int value = 0; value < 48; value++) {
            different.put(value * 5);
        }
        Check.due("48 different bytes", blockLength(different), 49);

        // Copies of two bytes would cost more than they save: they are not made.
        SqueezeQueue pairs = new SqueezeQueue();
        for (int value = 0; value < 12; value++) {
            pairs.put(1);
            pairs.put(2);
            pairs.put(100 + value);
            pairs.put(200 + value);
        }
        Check.due("short repeats", blockLength(pairs), 49);

        // The worst that copies can do: each of three bytes, with one plain byte between.
        SqueezeQueue triples = new SqueezeQueue();
        for (int value = 0; value < 12; value++) {
            triples.put(1);
            triples.put(2);
            triples.put(3);
            triples.put(100 + value);
        }
        Check.due("repeats of three", blockLength(triples), 49);
        Check.due("repeats of three: receive()", triples.receive(), 48);
        Check.due("repeats of three: at(47)", triples.at(47), 111);

        Check.due("no bytes", blockLength(new SqueezeQueue()), 0);
        Check.end();
    }

    private static int blockLength(SqueezeQueue x) throws ReflectiveOperationException {
        x.send();
        Field lengths = SqueezeQueue.class.getDeclaredField("squeezedLength");
        lengths.setAccessible(true);
        return ((int[]) lengths.get(x))[0];
    }
}
