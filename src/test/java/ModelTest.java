import java.util.ArrayDeque;
import java.util.ArrayList;
import java.util.List;

/** Long mixed runs against a plain model that does not squeeze; the runs are the same every time. */
public final class ModelTest {
    private static final int RUNS = 4000;
    private static final int CALLS = 512;
    private static final int[] EXTREMES = {
        Integer.MIN_VALUE, Integer.MIN_VALUE + 1, -256, -1, 0, 1, 47, 48, 49, 255, 256,
        Integer.MAX_VALUE - 47, Integer.MAX_VALUE - 1, Integer.MAX_VALUE,
    };

    private static long seed = 20261115L;

    private List<Integer> draft = new ArrayList<>();
    private List<Integer> page = new ArrayList<>();
    private final ArrayDeque<List<Integer>> queue = new ArrayDeque<>();
    private final SqueezeQueue real = new SqueezeQueue();
    private final int run;
    private final int alphabet;
    private int calls = 0;

    private ModelTest(int run) {
        this.run = run;
        this.alphabet = 1 << run % 9;
    }

    public static void main(String[] args) {
        for (int run = 0; run < RUNS; run++) {
            ModelTest test = new ModelTest(run);
            while (test.calls < CALLS) {
                test.step();
            }
        }
        everyShortDraft();
        Check.end();
    }

    /** A fixed row of numbers, so that a failure comes again in the next run. */
    private static int pick(int bound) {
        seed = seed * 6364136223846793005L + 1442695040888963407L;
        return (int) ((seed >>> 33) % bound);
    }

    private static int number(int low, int high) {
        return pick(16) == 0 ? EXTREMES[pick(EXTREMES.length)] : low + pick(high - low + 1);
    }

    private void check(String call, int got, int want) {
        calls++;
        Check.due("run " + run + ", call " + calls + ": " + call, got, want);
    }

    private void step() {
        switch (pick(20)) {
            case 0, 1 -> repeat(number(0, draft.size() + 1), number(0, 12));
            case 2 -> send();
            case 3 -> receive();
            case 4 -> at(number(-1, page.size()));
            case 5 -> find(number(0, alphabet), number(-1, page.size()));
            case 6 -> check("length()", real.length(), page.size());
            case 7 -> check("blocks()", real.blocks(), queue.size());
            case 8 -> rarely();
            default -> put(number(0, alphabet - 1));
        }
    }

    private void rarely() {
        int which = pick(4);
        calls++;
        if (which < 2) {
            real.erase();
            draft = new ArrayList<>();
        } else if (which == 2) {
            real.edit();
            draft = new ArrayList<>(page);
        } else {
            calls--;
            wholePage();
        }
    }

    private void put(int value) {
        boolean fits = draft.size() < 48;
        if (fits) {
            draft.add(value & 255);
        }
        check("put(" + value + ")", real.put(value), fits ? draft.size() : -1);
    }

    private void repeat(int distance, int count) {
        boolean allowed = distance >= 1 && distance <= draft.size()
            && count >= 1 && (long) draft.size() + count <= 48;
        if (allowed) {
            for (int i = 0; i < count; i++) {
                draft.add(draft.get(draft.size() - distance));
            }
        }
        check("repeat(" + distance + ", " + count + ")", real.repeat(distance, count),
            allowed ? draft.size() : -1);
    }

    private void send() {
        boolean fits = queue.size() < 4;
        if (fits) {
            queue.addLast(new ArrayList<>(draft));
        }
        check("send()", real.send(), fits ? queue.size() : -1);
    }

    private void receive() {
        boolean some = !queue.isEmpty();
        if (some) {
            page = queue.removeFirst();
        }
        check("receive()", real.receive(), some ? page.size() : -1);
    }

    private void at(int place) {
        boolean inside = place >= 0 && place < page.size();
        check("at(" + place + ")", real.at(place), inside ? page.get(place) : -1);
    }

    private void find(int value, int from) {
        int want = -1;
        for (int place = page.size() - 1; place >= 0 && place >= from; place--) {
            if (page.get(place) == (value & 255)) {
                want = place;
            }
        }
        check("find(" + value + ", " + from + ")", real.find(value, from), want);
    }

    private void wholePage() {
        for (int place = -1; place <= page.size() && calls < CALLS; place++) {
            at(place);
        }
    }

    /** Every row of up to 12 bytes of two values: all small shapes of copies and plain bytes. */
    private static void everyShortDraft() {
        for (int count = 0; count <= 12; count++) {
            for (int bits = 0; bits < 1 << count; bits++) {
                SqueezeQueue x = new SqueezeQueue();
                for (int i = 0; i < count; i++) {
                    x.put((bits >> i & 1) * 200);
                }
                x.send();
                String what = "row " + bits + " of " + count;
                Check.due(what + ": receive()", x.receive(), count);
                for (int i = 0; i < count; i++) {
                    Check.due(what + ": at(" + i + ")", x.at(i), (bits >> i & 1) * 200);
                }
            }
        }
    }
}
