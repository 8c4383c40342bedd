/**
 * Blocks of bytes that are squeezed, kept in a queue, and come out as they went in.
 *
 * A squeezed block is a row of two kinds of piece:
 *   n (1 to 48), then n bytes as they are;
 *   COPY_MARK + n, then a distance: n bytes like those that stand the distance before.
 */
public final class SqueezeQueue {
    private static final int MOST_BYTES = 48;
    private static final int MOST_BLOCKS = 4;

    // Above every count of plain bytes, and low enough that COPY_MARK + 48 is a positive byte.
    private static final int COPY_MARK = 64;

    // A copy takes two bytes, and the plain bytes behind it may need a count of their own:
    // from three bytes on, a copy never makes the block longer.
    private static final int LEAST_COPY = 3;

    // So the worst block is all plain bytes: one count and the bytes.
    private static final int SLOT_BYTES = MOST_BYTES + 1;
    private static final int QUEUE_BYTES = MOST_BLOCKS * SLOT_BYTES;

    private final byte[] draft = new byte[MOST_BYTES];
    private int draftLength = 0;

    private final byte[] page = new byte[MOST_BYTES];
    private int pageLength = 0;

    // The queue is a ring of slots of SLOT_BYTES each, one squeezed block to a slot.
    private final byte[] squeezed = new byte[QUEUE_BYTES];
    private final int[] squeezedLength = new int[MOST_BLOCKS];
    private int oldestSlot = 0;
    private int blockCount = 0;

    public SqueezeQueue() {
    }

    public int put(int value) {
        if (draftLength >= MOST_BYTES) {
            return -1;
        }
        draft[draftLength] = (byte) value;
        draftLength++;
        return draftLength;
    }

    public int repeat(int distance, int count) {
        if (distance < 1 || distance > draftLength) {
            return -1;
        }
        // Not draftLength + count: that sum can wrap around.
        if (count < 1 || count > MOST_BYTES - draftLength) {
            return -1;
        }
        for (int copied = 0; copied < count; copied++) {
            draft[draftLength] = draft[draftLength - distance];
            draftLength++;
        }
        return draftLength;
    }

    public void erase() {
        draftLength = 0;
    }

    public int send() {
        if (blockCount >= MOST_BLOCKS) {
            return -1;
        }
        int slot = (oldestSlot + blockCount) % MOST_BLOCKS;
        squeezeDraft(slot);
        blockCount++;
        return blockCount;
    }

    public int receive() {
        if (blockCount < 1) {
            return -1;
        }
        unsqueezeToPage(oldestSlot);
        oldestSlot = (oldestSlot + 1) % MOST_BLOCKS;
        blockCount--;
        return pageLength;
    }

    public int at(int place) {
        if (place < 0 || place >= pageLength) {
            return -1;
        }
        return page[place] & 255;
    }

    public int length() {
        return pageLength;
    }

    public int blocks() {
        return blockCount;
    }

    public int find(int value, int from) {
        byte wanted = (byte) value;
        int start = from < 0 ? 0 : from;
        for (int place = start; place < pageLength; place++) {
            if (page[place] == wanted) {
                return place;
            }
        }
        return -1;
    }

    public void edit() {
        for (int place = 0; place < pageLength; place++) {
            draft[place] = page[place];
        }
        draftLength = pageLength;
    }

    private void squeezeDraft(int slot) {
        squeezedLength[slot] = 0;
        int done = 0;
        for (int place = 0; place < draftLength; place++) {
            // Places before done lie inside the last copy.
            int distance = place < done ? 0 : bestDistance(place);
            if (distance > 0) {
                int count = matchLength(place, distance);
                keepPlain(slot, done, place);
                keepCopy(slot, distance, count);
                done = place + count;
            }
        }
        keepPlain(slot, done, draftLength);
    }

    /** The distance of the longest copy that the draft allows at the place; 0 if none is worth it. */
    private int bestDistance(int place) {
        int best = 0;
        int longest = LEAST_COPY - 1;
        for (int distance = 1; distance <= place; distance++) {
            int count = matchLength(place, distance);
            if (count > longest) {
                longest = count;
                best = distance;
            }
        }
        return best;
    }

    private int matchLength(int place, int distance) {
        for (int next = place; next < draftLength; next++) {
            if (draft[next] != draft[next - distance]) {
                return next - place;
            }
        }
        return draftLength - place;
    }

    private void keepPlain(int slot, int from, int to) {
        if (from < to) {
            keep(slot, to - from);
        }
        for (int place = from; place < to; place++) {
            keep(slot, draft[place]);
        }
    }

    private void keepCopy(int slot, int distance, int count) {
        keep(slot, COPY_MARK + count);
        keep(slot, distance);
    }

    // The bound is never met, as SLOT_BYTES tells; it stands so that no index goes unchecked.
    private void keep(int slot, int value) {
        int length = squeezedLength[slot];
        if (length < SLOT_BYTES) {
            squeezed[slot * SLOT_BYTES + length] = (byte) value;
            squeezedLength[slot] = length + 1;
        }
    }

    private void unsqueezeToPage(int slot) {
        int start = slot * SLOT_BYTES;
        int end = start + squeezedLength[slot];
        int plainLeft = 0;
        int copyCount = 0;
        pageLength = 0;
        for (int next = start; next < end; next++) {
            byte value = squeezed[next];
            if (plainLeft > 0) {
                addToPage(value);
                plainLeft--;
            } else if (copyCount > 0) {
                copyInPage(value, copyCount);
                copyCount = 0;
            } else if (value < COPY_MARK) {
                plainLeft = value;
            } else {
                copyCount = value - COPY_MARK;
            }
        }
    }

    // squeezeDraft keeps no other distances; looked at for the same reason as in keep.
    private void copyInPage(int distance, int count) {
        if (distance < 1 || distance > pageLength) {
            return;
        }
        for (int copied = 0; copied < count; copied++) {
            addToPage(page[pageLength - distance]);
        }
    }

    private void addToPage(byte value) {
        if (pageLength < MOST_BYTES) {
            page[pageLength] = value;
            pageLength++;
        }
    }
}
