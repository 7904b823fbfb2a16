import java.util.function.Supplier;
import java.util.function.ToLongFunction;

/** Objects in the midst of use, all that can be seen of one, and calls that may change nothing of it. */
final class Scene {
    static final int UNKNOWN = -1, OUTSIDE = -2, STATE = -3, FULL = -4, NONE = -9;
    static final int NULL = 1, CAST = 2, INDEX = 3, SIZE = 4;
    static final long LOST = Long.MIN_VALUE;
    static final int MAX = Integer.MAX_VALUE, MIN = Integer.MIN_VALUE;

    /** Of the scene in use, which has 3 places; -1 and 3 are just beside them. */
    static final int[] NO_PLACES = {-1, 3, MIN, MAX};
    static final int[] NO_SHEETS = {-1, 4, MIN, MAX};
    static final int[] NO_LANES = {-1, 3, MIN, MAX};

    /** Place 0 plain, 3 paths; place 1 broad, 2 paths, bears 3; place 2 double, 4 paths, bears 8. */
    static final String MIXED = "y3120;p01;b12;d25";

    private Scene() {
    }

    /**
     * Heaps 1, 1, 7, all settled; 2 topplings, 1 fallen; 2 readings; a trace; sheet 0 has bytes, 1 shorts,
     * 2 ints, 3 nothing; the latest fault is SIZE.
     */
    static ToppleYard inUse() {
        ToppleYard x = Check.withYard(MIXED);
        x.heap(0, 3);
        x.topple(0);
        x.topple(1);
        x.reading(2, 2);
        x.reading(1, 0);
        x.tell(2);
        x.strike(0);
        sheetsInUse(x);
        return x;
    }

    /** Sheets as in the scene in use (but sheet 0), no yard. */
    static ToppleYard noYard() {
        ToppleYard x = new ToppleYard();
        Check.row(x, 0, 0, 0, 0, 0, 0);
        sheetsInUse(x);
        return x;
    }

    private static void sheetsInUse(ToppleYard x) {
        Check.row(x, 1, 1, 5, -6, 700);
        Check.row(x, 2, 2, 0, 0, 2, 0, 8);
        x.sheet(3, 0, -1);
    }

    /** A heap of 999 on place 0 of a yard of two plain places. */
    static ToppleYard full() {
        ToppleYard x = Check.withYard("y23;p10;p10");
        raise(x, 0, 999);
        x.sheet(3, 0, -1);
        return x;
    }

    /** Makes a heap as high as told, 99 .. 999. */
    static void raise(ToppleYard x, int p, int grains) {
        x.heap(p, 99);
        for (int left = grains - 99; left > 0; left -= 99) {
            x.drop(p, Math.min(left, 99));
        }
    }

    static void heaps(ToppleYard x, int... heaps) {
        for (int p = 0; p < heaps.length; p++) {
            x.heap(p, heaps[p]);
        }
    }

    /** All that calls tell of an object, but its latest fault. */
    static String seen(ToppleYard x) {
        StringBuilder sb = new StringBuilder();
        for (int what = 0; what <= 4; what++) {
            sb.append(x.many(what)).append(' ');
        }
        for (int p = 0; p < x.many(0); p++) {
            sb.append("; place");
            for (int what = 0; what <= 5; what++) {
                sb.append(' ').append(x.ofPlace(p, what));
            }
            for (int q = 0; q < x.many(0); q++) {
                sb.append(' ').append(x.paths(p, q));
            }
            sb.append(' ').append(x.kinds(p)).append(' ').append(x.heapings(p));
        }
        sb.append("; trace ").append(x.trace());
        for (int k = 0; k <= 3; k++) {
            sb.append("; sheet ").append(rowSeen(x, k));
        }
        return sb.toString();
    }

    private static String rowSeen(ToppleYard x, int k) {
        for (int lane = 0; lane <= 2; lane++) {
            long first = x.cell(k, 0, lane);
            int fault = x.fault();
            if (fault == NULL) {
                return "nothing";
            }
            if (fault != CAST) {
                StringBuilder sb = new StringBuilder("lane ").append(lane).append(':');
                for (int i = 0; i < 60 && x.cell(k, i, lane) != LOST; i++) {
                    sb.append(' ').append(x.cell(k, i, lane));
                }
                return sb.append(first == LOST ? " none" : "").toString();
            }
        }
        return "of no lane";
    }

    /** The call answers as told, fault() then as told, and all else is as without it. */
    static void leavesAll(String name, Supplier<ToppleYard> scene, ToLongFunction<ToppleYard> call, long want, int fault) {
        ToppleYard x = scene.get();
        DocumentText.due(name, call.applyAsLong(x), want);
        DocumentText.due(name + ", then fault()", x.fault(), fault);
        String without = seen(scene.get());
        String with = seen(x);
        DocumentText.dueTrue(name + " leaves " + without + ", but then it was " + with, with.equals(without));
    }

    /** A refusal of a call that names no faults: the latest fault stays. */
    static void refused(String name, ToLongFunction<ToppleYard> call, long want) {
        refused(name, Scene::inUse, call, want);
    }

    static void refused(String name, Supplier<ToppleYard> scene, ToLongFunction<ToppleYard> call, long want) {
        leavesAll(name, scene, call, want, scene.get().fault());
    }

    /** A refusal of a call that names faults: there is no latest fault then. */
    static void refusedNaming(String name, ToLongFunction<ToppleYard> call, long want) {
        leavesAll(name, Scene::inUse, call, want, 0);
    }

    static void refusedNaming(String name, Supplier<ToppleYard> scene, ToLongFunction<ToppleYard> call, long want) {
        leavesAll(name, scene, call, want, 0);
    }

    /** A call, of those that answer an int, that comes to a fault. */
    static void faulted(String name, ToLongFunction<ToppleYard> call, int fault) {
        leavesAll(name, Scene::inUse, call, -10 - fault, fault);
    }

    static void faulted(String name, Supplier<ToppleYard> scene, ToLongFunction<ToppleYard> call, int fault) {
        leavesAll(name, scene, call, -10 - fault, fault);
    }
}
