import java.lang.reflect.Field;
import java.util.Arrays;

/** Promise 5 says that a draft is squeezed: looks inside the object at how long its block is, and that it comes back. */
public final class SqueezeTest {
    private SqueezeTest() {
    }

    public static void main(String[] args) throws ReflectiveOperationException {
        squeezesTo(0);
        squeezesTo(2, 7);
        squeezesTo(49, Bench.row(48, 0, 5));
        squeezesTo(4, Bench.row(48, 200, 0));
        squeezesTo(9, again(8, 1, 2, 3, 4, 5, 6));
        squeezesTo(6, 1, 2, 3, 1, 2, 3);
        piecesInOrder();
        longestCopy();
        worstBlocks();
        Check.end();
    }

    private static void piecesInOrder() throws ReflectiveOperationException {
        // Plain bytes before, between and behind copies.
        squeezesTo(9, 1, 2, 3, 4, 1, 2, 3, 4, 9);
        squeezesTo(16, 1, 2, 3, 4, 8, 2, 3, 4, 9, 8, 2, 3, 4, 9, 1, 7, 7);
        // One copy right behind another.
        squeezesTo(11, 1, 2, 3, 4, 5, 6, 4, 5, 6, 1, 2, 3);
    }

    private static void longestCopy() throws ReflectiveOperationException {
        // Of two places with the same beginning, the nearer and the farther one goes on longer.
        squeezesTo(13, 1, 2, 3, 8, 1, 2, 3, 4, 5, 7, 1, 2, 3, 4, 5);
        squeezesTo(13, 1, 2, 3, 4, 5, 8, 1, 2, 3, 7, 1, 2, 3, 4, 5);
    }

    /** A block too long for its place would be cut, and then its last bytes would not come back. */
    private static void worstBlocks() throws ReflectiveOperationException {
        int[] pairs = new int[48];
        int[] triples = new int[48];
        for (int i = 0; i < 48; i++) {
            pairs[i] = i % 4 < 2 ? i % 4 : 100 + i;
            triples[i] = i % 4 < 3 ? i % 4 : 100 + i;
        }
        // Copies of two bytes would cost more than they save: they are not made.
        squeezesTo(49, pairs);
        // The worst that copies can do: each of three bytes, with one plain byte between.
        squeezesTo(49, triples);
    }

    private static int[] again(int times, int... bytes) {
        int[] all = new int[times * bytes.length];
        for (int i = 0; i < all.length; i++) {
            all[i] = bytes[i % bytes.length];
        }
        return all;
    }

    private static void squeezesTo(int length, int... bytes) throws ReflectiveOperationException {
        SqueezeQueue x = new SqueezeQueue();
        for (int value : bytes) {
            x.put(value);
        }
        x.send();
        String what = "block " + Arrays.toString(bytes);
        Check.due(what + ": its length", firstBlockLength(x), length);
        Check.due(what + ": receive()", x.receive(), bytes.length);
        for (int i = 0; i < bytes.length; i++) {
            Check.due(what + ": at(" + i + ")", x.at(i), bytes[i]);
        }
    }

    private static int firstBlockLength(SqueezeQueue x) throws ReflectiveOperationException {
        Field lengths = SqueezeQueue.class.getDeclaredField("squeezedLength");
        lengths.setAccessible(true);
        return ((int[]) lengths.get(x))[0];
    }
}
