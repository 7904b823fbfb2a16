import java.util.function.Supplier;

/** Grains: what can topple, days (terms 2), promises 6 to 9. The scene in use has heaps 1, 1, 7. */
final class GrainEdges {
    private GrainEdges() {
    }

    static void all() {
        canTopple();
        settled();
        toSettle();
        dayFromNow();
        dayActs();
        firstWrong();
        drop();
        topple();
        settle();
        dayCells();
        dayAnswers();
        dayRefused();
        dayFaults();
        dayPairs();
    }

    private static void dueHeaps(String call, ToppleYard x, int... heaps) {
        for (int p = 0; p < heaps.length; p++) {
            DocumentText.due(call + ", heap " + p, x.ofPlace(p, 2), heaps[p]);
        }
    }

    private static void canTopple() {
        DocumentText.terms(2, "A PLACE whose HEAP is no less than it BEARS can TOPPLE: its HEAP is DEGREE less;"
                + " along each PATH one grain goes to where it leads (in the PIT it has FALLEN).");
        int[] bears = {3, 3, 8};
        int[] fallen = {0, 1, 2};
        int[][] heaps = {{0, 1, 2}, {1, 1, 0}, {2, 0, 4}};
        for (int p = 0; p < 3; p++) {
            ToppleYard x = Check.withYard(Scene.MIXED);
            Scene.heaps(x, 0, 0, 0);
            x.heap(p, bears[p] - 1);
            DocumentText.due("one less than it bears, " + p, x.topple(p), Scene.STATE);
            x.heap(p, bears[p]);
            DocumentText.due("as many as it bears, " + p, x.topple(p), fallen[p]);
            dueHeaps("place " + p + " toppled", x, heaps[p]);
            DocumentText.due("fallen", x.many(2), fallen[p]);
            x.heap(p, 99);
            DocumentText.due("more than it bears, " + p, x.topple(p), fallen[p]);
        }
        ToppleYard beside = Check.withYard("y23;p30;p00");
        beside.heap(0, 6);
        DocumentText.due("one grain along each of 3 paths", beside.topple(0), 3);
        dueHeaps("3 paths", beside, 0, 3);
    }

    private static void settled() {
        DocumentText.terms(2, "All is SETTLED, if none can.");
        ToppleYard x = Check.withYard(Scene.MIXED);
        Scene.heaps(x, 2, 2, 7);
        DocumentText.due("one less each", x.settle(), 0);
        DocumentText.dueTrue("one less each burns", x.burnt() >= 0);
        for (int p = 0; p < 3; p++) {
            Scene.heaps(x, 2, 2, 7);
            x.drop(p, 1);
            DocumentText.due("place " + p + " can", x.burnt(), Scene.STATE);
        }
    }

    private static void toSettle() {
        DocumentText.terms(2, "To SETTLE: they TOPPLE, as long as one can (whichever goes first, each TOPPLES as often,"
                + " and the HEAPS are the same).");
        String[] texts = {Scene.MIXED, "y50123012301;p10;b11;d22;p33;b09", "y21;d39;b39"};
        for (String text : texts) {
            ToppleYard upward = oneByOne(text, true);
            ToppleYard downward = oneByOne(text, false);
            ToppleYard x = Check.withYard(text);
            x.drop(0, 19);
            DocumentText.due(text + " topplings", x.settle(), upward.many(3));
            for (ToppleYard other : new ToppleYard[] {upward, downward}) {
                for (int p = 0; p < x.many(0); p++) {
                    DocumentText.due(text + " heap " + p, x.ofPlace(p, 2), other.ofPlace(p, 2));
                    DocumentText.due(text + " toppled " + p, x.ofPlace(p, 5), other.ofPlace(p, 5));
                }
                DocumentText.due(text + " fallen", x.many(2), other.many(2));
                DocumentText.due(text + " can go on", other.settle(), 0);
            }
            DocumentText.due(text + " none can any more", x.settle(), 0);
        }
    }

    private static ToppleYard oneByOne(String text, boolean upward) {
        ToppleYard x = Check.withYard(text);
        x.drop(0, 19);
        int places = x.many(0);
        int still = 0;
        int p = 0;
        while (still < places) {
            int which = upward ? p : places - 1 - p;
            still = x.topple(which) >= 0 ? 0 : still + 1;
            p = (p + 1) % places;
        }
        return x;
    }

    /** The scene in use (or another) with pairs in sheet 2. */
    private static ToppleYard told(ToppleYard x, int... pairs) {
        Check.row(x, 2, 2, pairs);
        x.sheet(3, 0, -1);
        return x;
    }

    private static void dueDay(String name, Supplier<ToppleYard> scene, int what, long want, int... pairs) {
        Scene.leavesAll(name + ", what " + what, () -> told(scene.get(), pairs),
                x -> x.day(2, 2, 0, pairs.length / 2, what), want, 0);
    }

    private static void dueDay(String name, int what, long want, int... pairs) {
        dueDay(name, Scene::inUse, what, want, pairs);
    }

    private static void dayFromNow() {
        DocumentText.terms(2, "A DAY told: a row of pairs, one behind another, from how all is now (nothing is changed):");
        dueDay("no pairs", 0, 9);
        dueDay("no pairs", 2, 0);
        dueDay("no pairs", 3, 0);
        dueDay("from now, not from one another", 12, 8, 2, 0);
        dueDay("from now, not from one another", 12, 9, 2, 0, 2, 0);
        dueDay("one behind another", 10, 3, 0, 10, 0, 0, 0, 0, 0, 0);
        dueDay("the other way about", 10, 0, 0, 0, 0, 0, 0, 0, 0, 10);
    }

    private static void dayActs() {
        DocumentText.terms(2, "a PLACE and 0: a grain is dropped there;");
        for (int p = 0; p < 3; p++) {
            dueDay("drop on " + p, 10 + p, new int[] {2, 2, 8}[p], p, 0);
            dueDay("drop on " + p, 0, 10, p, 0);
            dueDay("drop on " + p, 2, 0, p, 0);
        }
        DocumentText.terms(2, "and 1: it TOPPLES;");
        int[] whats = {0, 2, 3, 4, 10, 11, 12};
        int[] wants = {8, 1, 2, 1, 3, 1, 4};
        for (int w = 0; w < whats.length; w++) {
            dueDay("place 2 topples, no more", whats[w], wants[w], 2, 0, 2, 1);
        }
        DocumentText.terms(2, "0 .. 9 and 2: to SETTLE, and so many grains dropped on PLACE 0 then;");
        int[] settledWants = {17, 2, 2, 1, 9, 2, 6};
        for (int w = 0; w < whats.length; w++) {
            dueDay("settled, then 9 dropped", whats[w], settledWants[w], 2, 0, 9, 2);
        }
        dueDay("none dropped", 10, 1, 0, 2);
        dueDay("none dropped", 0, 9, 0, 2);
        dueDay("settled already", 2, 0, 9, 2);
        dueDay("what is dropped stays till it settles again", 10, 10, 9, 2);
        dueDay("-1 dropped", 0, Scene.OUTSIDE, -1, 2);
        dueDay("10 dropped", 0, Scene.OUTSIDE, 10, 2);
        DocumentText.terms(2, "0 .. 99 and 10 .. 14: HEAP of the PLACE that is 10 less becomes that.");
        for (int p = 0; p < 5; p++) {
            dueDay("heap 0", GrainEdges::five, 10 + p, 0, 0, 10 + p);
            dueDay("heap 99", GrainEdges::five, 10 + p, 99, 99, 10 + p);
            dueDay("heap -1", GrainEdges::five, 10 + p, Scene.OUTSIDE, -1, 10 + p);
            dueDay("heap 100", GrainEdges::five, 10 + p, Scene.OUTSIDE, 100, 10 + p);
            dueDay("only that heap", GrainEdges::five, 0, 15 - (p + 1) + 99, 99, 10 + p);
        }
        dueDay("the second is 9", GrainEdges::five, 0, Scene.OUTSIDE, 0, 9);
        dueDay("the second is 15", GrainEdges::five, 0, Scene.OUTSIDE, 0, 15);
    }

    private static ToppleYard five() {
        return Check.withYard("y50000000000;d31;d32;d33;d34;d35");
    }

    /** Place 0 has 998, place 1 has 4; both bear 4, with 3 paths between them. */
    private static ToppleYard nearlyFull() {
        ToppleYard x = Check.withYard("y23;p10;p14");
        Scene.raise(x, 0, 998);
        return x;
    }

    private static void firstWrong() {
        DocumentText.terms(2, "FIRST WRONG: the first act that can't be (it can't TOPPLE, there is no such PLACE,"
                + " a HEAP would be more than 999).");
        dueDay("one less than it bears", 1, 0, 2, 1);
        dueDay("as many as it bears", 1, Scene.NONE, 2, 0, 2, 1);
        dueDay("not once more", 1, 2, 2, 0, 2, 1, 2, 1);
        dueDay("the first of two", 1, 1, 0, 0, 1, 1, 0, 1);
        dueDay("the last place", 1, Scene.NONE, 5, 12);
        dueDay("one beyond", 1, 0, 5, 13);
        dueDay("14 is beyond", 1, 1, 5, 12, 5, 14);
        dueDay("of 5 places 14 is the last", GrainEdges::five, 1, Scene.NONE, 5, 14);
        dueDay("of 2 places 12 is beyond", GrainEdges::nearlyFull, 1, 1, 5, 11, 5, 12);
        dueDay("999", GrainEdges::nearlyFull, 1, Scene.NONE, 0, 0);
        dueDay("999", GrainEdges::nearlyFull, 10, 999, 0, 0);
        dueDay("1000", GrainEdges::nearlyFull, 1, 1, 0, 0, 0, 0);
        dueDay("1000", GrainEdges::nearlyFull, 10, -101, 0, 0, 0, 0);
        dueDay("toppled before that", GrainEdges::nearlyFull, 1, Scene.NONE, 0, 0, 0, 1, 0, 0, 0, 0, 0, 0, 0, 0);
        dueDay("settled before 9 are dropped", GrainEdges::nearlyFull, 1, Scene.NONE, 0, 0, 9, 2);
        dueDay("another place", GrainEdges::nearlyFull, 1, Scene.NONE, 0, 0, 1, 0);
        // A toppling is not refused by topple() for what it lifts: so it can be, in a day too.
        dueDay("a toppling may lift one above 999", GrainEdges::nearlyFull, 10, 1001, 1, 1);
        dueDay("but then no grain", GrainEdges::nearlyFull, 1, 1, 1, 1, 0, 0);
    }

    private static void drop() {
        DocumentText.promise(6, "n grains (1 .. 99) are dropped on a PLACE: its HEAP then.");
        ToppleYard x = Check.withYard(Scene.MIXED);
        DocumentText.due("1", x.drop(0, 1), 2);
        DocumentText.due("99", x.drop(1, 99), 101);
        DocumentText.due("on the last place", x.drop(2, 1), 6);
        dueHeaps("none topples by it", x, 2, 101, 6);
        DocumentText.promise(6, "UNKNOWN; OUTSIDE;");
        for (int p : Scene.NO_PLACES) {
            Scene.refused("place " + p, y -> y.drop(p, 1), Scene.UNKNOWN);
        }
        Scene.refused("no yard", Scene::noYard, y -> y.drop(0, 1), Scene.UNKNOWN);
        for (int n : new int[] {0, -1, 100, Scene.MIN, Scene.MAX}) {
            Scene.refused("n " + n, y -> y.drop(0, n), Scene.OUTSIDE);
        }
        DocumentText.promise(6, "FULL: it would be more than 999.");
        ToppleYard high = Check.withYard("y23;p10;p10");
        Scene.raise(high, 0, 900);
        DocumentText.due("just 999", high.drop(0, 99), 999);
        DocumentText.due("one more", high.drop(0, 1), Scene.FULL);
        DocumentText.due("99 more", high.drop(0, 99), Scene.FULL);
        DocumentText.due("stays", high.ofPlace(0, 2), 999);
        DocumentText.due("another place", high.drop(1, 99), 99);
        Scene.raise(high, 0, 998);
        DocumentText.due("two on 998", high.drop(0, 2), Scene.FULL);
        DocumentText.due("one on 998", high.drop(0, 1), 999);
        Scene.refused("full", Scene::full, y -> y.drop(0, 1), Scene.FULL);
        high.topple(1);
        DocumentText.due("lifted above 999", high.ofPlace(0, 2), 1002);
        DocumentText.due("then too", high.drop(0, 1), Scene.FULL);
    }

    private static void topple() {
        DocumentText.promise(7, "A PLACE TOPPLES: how many grains have FALLEN by it.");
        for (int pit = 0; pit <= 3; pit++) {
            ToppleYard x = Check.withYard("y21;p" + pit + "9;p10");
            DocumentText.due("fallen by it, " + pit, x.topple(0), pit);
            DocumentText.due("all fallen, " + pit, x.many(2), pit);
            DocumentText.due("topplings", x.many(3), 1);
            DocumentText.due("heap", x.ofPlace(0, 2), 9 - pit - 1);
            DocumentText.due("the other's heap", x.ofPlace(1, 2), 1);
        }
        DocumentText.promise(7, "UNKNOWN; STATE: it can't.");
        for (int p : Scene.NO_PLACES) {
            Scene.refused("place " + p, x -> x.topple(p), Scene.UNKNOWN);
        }
        Scene.refused("no yard", Scene::noYard, x -> x.topple(0), Scene.UNKNOWN);
        for (int p = 0; p < 3; p++) {
            int place = p;
            Scene.refused("one less than it bears, " + p, GrainEdges::oneLess, x -> x.topple(place), Scene.STATE);
        }
    }

    private static ToppleYard oneLess() {
        ToppleYard x = Scene.inUse();
        Scene.heaps(x, 2, 2, 7);
        return x;
    }

    private static void settle() {
        DocumentText.promise(8, "To SETTLE: how many TOPPLINGS.");
        ToppleYard x = Scene.inUse();
        DocumentText.due("settled already", x.settle(), 0);
        x.drop(2, 1);
        DocumentText.due("two", x.settle(), 2);
        dueHeaps("two", x, 0, 2, 6);
        DocumentText.due("with those before", x.many(3), 4);
        DocumentText.due("fallen", x.many(2), 3);
        ToppleYard one = Check.withYard("y20;p10;b10");
        Scene.raise(one, 0, 999);
        Scene.raise(one, 1, 999);
        DocumentText.due("one by one, a broad one keeps 1", one.settle(), 999 + 998);
        dueHeaps("one by one", one, 0, 1);
        DocumentText.promise(8, "STATE: there is no YARD.");
        Scene.refused("no yard", Scene::noYard, y -> y.settle(), Scene.STATE);
        DocumentText.due("new", new ToppleYard().settle(), Scene.STATE);
    }

    /** A row of 60 ints: a grain on place 0 each, but for what is put at the cell told. */
    private static ToppleYard longRow() {
        ToppleYard x = Check.withYard(Scene.MIXED);
        x.sheet(2, 2, 60);
        x.put(2, 20, 2);
        x.put(2, 58, 1);
        x.sheet(3, 0, -1);
        return x;
    }

    private static void dayCells() {
        DocumentText.promise(9, "A DAY of n pairs, that are cells of a SHEET from i on (2 n):");
        Scene.leavesAll("20 pairs", GrainEdges::longRow, x -> x.day(2, 2, 0, 20, 0), 8 + 20, 0);
        Scene.leavesAll("20 pairs, place 0", GrainEdges::longRow, x -> x.day(2, 2, 0, 20, 10), 1 + 19, 0);
        Scene.leavesAll("the last 20 pairs", GrainEdges::longRow, x -> x.day(2, 2, 20, 20, 0), 8 + 20, 0);
        Scene.leavesAll("the last 20 pairs, place 1", GrainEdges::longRow, x -> x.day(2, 2, 20, 20, 11), 3, 0);
        Scene.leavesAll("the last 20 pairs, place 2", GrainEdges::longRow, x -> x.day(2, 2, 20, 20, 12), 6, 0);
        Scene.leavesAll("1 pair", GrainEdges::longRow, x -> x.day(2, 2, 20, 1, 12), 6, 0);
        Scene.leavesAll("the last pair", GrainEdges::longRow, x -> x.day(2, 2, 58, 1, 11), 3, 0);
        Scene.leavesAll("no pair behind the last", GrainEdges::longRow, x -> x.day(2, 2, 60, 0, 0), 8, 0);
        Scene.leavesAll("shorts", () -> toldShorts(0, 0, 1, 0), x -> x.day(1, 1, 0, 2, 11), 2, 0);
        ToppleYard bytes = Scene.inUse();
        Check.row(bytes, 3, 0, 7, 2, 0, 7);
        DocumentText.due("bytes, from 1 on", bytes.day(3, 0, 1, 1, 12), 8);
    }

    private static ToppleYard toldShorts(int... pairs) {
        ToppleYard x = Scene.inUse();
        Check.row(x, 1, 1, pairs);
        return x;
    }

    private static void dayAnswers() {
        DocumentText.promise(9, "all HEAPS together then (what 0),");
        dueDay("no act", 0, 9);
        dueDay("what fell is not among them", 0, 8, 2, 0, 2, 1);
        DocumentText.promise(9, "its FIRST WRONG (1; NONE),");
        dueDay("none", 1, -9, 2, 0, 2, 1);
        dueDay("the first act", 1, 0, 0, 1);
        DocumentText.promise(9, "how many TOPPLINGS there are in it (2), how many grains have FALLEN in it (3),");
        dueDay("not those before it", 2, 0);
        dueDay("not those before it", 3, 0);
        dueDay("told and settled ones", 2, 2, 2, 0, 2, 1, 0, 2);
        dueDay("told and settled ones", 3, 2, 2, 0, 2, 1, 0, 2);
        DocumentText.promise(9, "which PLACES could TOPPLE then, as a set (4),");
        dueDay("none", 4, 0);
        dueDay("place 2", 4, 4, 2, 0);
        dueDay("one less each", 4, 0, 2, 10, 2, 11, 7, 12);
        dueDay("as many each", 4, 7, 3, 10, 3, 11, 8, 12);
        dueDay("none once settled", 4, 0, 3, 10, 3, 11, 8, 12, 0, 2);
        DocumentText.promise(9, "HEAP of PLACE p then (10 and p; NONE: there is no such PLACE);");
        for (int p = 0; p < 5; p++) {
            dueDay("heap " + p, 10 + p, new int[] {1, 1, 7, -9, -9}[p]);
            dueDay("heap " + p + " of 5", GrainEdges::five, 10 + p, p + 1);
            dueDay("heap " + p + " of 2", GrainEdges::nearlyFull, 10 + p, new int[] {998, 4, -9, -9, -9}[p]);
        }
        DocumentText.promise(9, "of one with a FIRST WRONG: -100 less that (but what 1).");
        for (int what : new int[] {0, 2, 3, 4, 10, 11, 12, 13, 14}) {
            dueDay("the first act", what, -100, 0, 1);
            dueDay("the third act", what, -102, 2, 0, 2, 1, 2, 1, 2, 1);
        }
        dueDay("the third act", 1, 2, 2, 0, 2, 1, 2, 1, 2, 1);
        int[] pairs = new int[40];
        pairs[39] = 14;
        dueDay("the twentieth act", 0, -119, pairs);
        dueDay("the twentieth act", 1, 19, pairs);
    }

    private static void dayRefused() {
        DocumentText.promise(9, "UNKNOWN: SHEET; OUTSIDE: lane, n (0 .. 20), what (0 .. 4, 10 .. 14);");
        for (int k : Scene.NO_SHEETS) {
            Scene.refusedNaming("sheet " + k, x -> x.day(k, 2, 0, 1, 0), Scene.UNKNOWN);
        }
        for (int lane : Scene.NO_LANES) {
            Scene.refusedNaming("lane " + lane, x -> x.day(2, lane, 0, 1, 0), Scene.OUTSIDE);
            Scene.refusedNaming("lane " + lane + " of nothing", x -> x.day(3, lane, 0, 1, 0), Scene.OUTSIDE);
        }
        for (int n : new int[] {-1, 21, Scene.MIN, Scene.MAX, 0x40000000, 0x40000001, 0x80000001}) {
            Scene.refusedNaming("n " + n, GrainEdges::longRow, x -> x.day(2, 2, 0, n, 0), Scene.OUTSIDE);
            Scene.refusedNaming("n " + n + " of nothing", x -> x.day(3, 2, 0, n, 0), Scene.OUTSIDE);
        }
        for (int what : new int[] {-1, 5, 9, 15, Scene.MIN, Scene.MAX}) {
            Scene.refusedNaming("what " + what, x -> x.day(2, 2, 0, 1, what), Scene.OUTSIDE);
            Scene.refusedNaming("what " + what + " of nothing", x -> x.day(3, 2, 0, 1, what), Scene.OUTSIDE);
        }
        DocumentText.promise(9, "STATE: there is no YARD;");
        for (int what : new int[] {0, 1, 2, 3, 4, 10, 14}) {
            Scene.refusedNaming("what " + what, Scene::noYard, x -> x.day(2, 2, 0, 2, what), Scene.STATE);
            Scene.refusedNaming("no pairs, what " + what, Scene::noYard, x -> x.day(2, 2, 0, 0, what), Scene.STATE);
        }
        Scene.refusedNaming("ahead of pairs", Scene::noYard, x -> x.day(2, 2, 3, 1, 0), Scene.STATE);
    }

    /** Sheet 2 of the scene in use has 5 ints. */
    private static void dayFaults() {
        DocumentText.promise(9, "FAULTS CAST, NULL, INDEX;");
        for (int lane = 0; lane <= 2; lane++) {
            int asked = lane;
            Scene.faulted("nothing as " + lane, x -> x.day(3, asked, 0, 1, 0), 1);
            Scene.faulted("another lane than " + lane, x -> x.day((asked + 1) % 3, asked, 0, 1, 0), 2);
        }
        Scene.faulted("6 cells of 5", x -> x.day(2, 2, 0, 3, 0), 3);
        Scene.faulted("cells 4 and 5", x -> x.day(2, 2, 4, 1, 0), 3);
        Scene.faulted("from -1 on", x -> x.day(2, 2, -1, 1, 0), 3);
        Scene.faulted("from the last on", x -> x.day(2, 2, Scene.MAX, 20, 0), 3);
        Scene.faulted("ahead of pairs that are refused", x -> x.day(2, 2, 3, 2, 0), 3);
        Scene.leavesAll("cells 0 .. 3 of 5", Scene::inUse, x -> x.day(2, 2, 0, 2, 0), 11, 0);
        Scene.leavesAll("cells 1 and 2 of 5", Scene::inUse, x -> x.day(2, 2, 1, 1, 1), -9, 0);
        Scene.faulted("20 pairs, one cell too far", GrainEdges::longRow, x -> x.day(2, 2, 21, 20, 0), 3);
    }

    private static void dayPairs() {
        DocumentText.promise(9, "pair by pair OUTSIDE: the second is none of 0 .. 2, 10 .. 14,");
        for (int second : new int[] {-1, 3, 9, 15, Scene.MIN, Scene.MAX}) {
            dueDay("second " + second, 1, Scene.OUTSIDE, 0, second);
            dueDay("second " + second + " ahead of the first", 1, Scene.OUTSIDE, -1, second);
        }
        DocumentText.promise(9, "it is 2 and the first is not 0 .. 9,");
        for (int first : new int[] {-1, 10, Scene.MIN, Scene.MAX}) {
            dueDay("first " + first, 1, Scene.OUTSIDE, first, 2);
        }
        dueDay("first 0", 1, Scene.NONE, 0, 2);
        dueDay("first 9", 1, Scene.NONE, 9, 2);
        DocumentText.promise(9, "it is 10 .. 14 and the first is not 0 .. 99;");
        for (int second = 10; second <= 14; second++) {
            for (int first : new int[] {-1, 100, Scene.MIN, Scene.MAX}) {
                dueDay("first " + first + " and " + second, 1, Scene.OUTSIDE, first, second);
            }
            dueDay("first 0 and " + second, 1, second <= 12 ? Scene.NONE : 0, 0, second);
            dueDay("first 99 and " + second, 1, second <= 12 ? Scene.NONE : 0, 99, second);
        }
        DocumentText.promise(9, "UNKNOWN: the first is no PLACE (of 0, 1).");
        for (int first : Scene.NO_PLACES) {
            dueDay("first " + first + " and 0", 1, Scene.UNKNOWN, first, 0);
            dueDay("first " + first + " and 1", 1, Scene.UNKNOWN, first, 1);
        }
        dueDay("place 4 of 5", GrainEdges::five, 1, Scene.NONE, 4, 0);
        dueDay("place 5 of 5", GrainEdges::five, 1, Scene.UNKNOWN, 5, 0);
        dueDay("place 2 of 2", GrainEdges::nearlyFull, 1, Scene.UNKNOWN, 2, 0);
        dueDay("unknown, outside", 0, Scene.UNKNOWN, 3, 0, 0, 3);
        dueDay("outside, unknown", 0, Scene.OUTSIDE, 0, 3, 3, 0);
        dueDay("wrong, then unknown", 0, Scene.UNKNOWN, 0, 1, 3, 0);
        dueDay("wrong, then outside", 1, Scene.OUTSIDE, 0, 1, 0, 3);
        int[] pairs = new int[40];
        pairs[38] = 3;
        dueDay("unknown in the twentieth pair", 0, Scene.UNKNOWN, pairs);
        Scene.leavesAll("a pair behind the n told is not looked at", () -> told(Scene.inUse(), 0, 0, 3, 0, 0, 3),
                x -> x.day(2, 2, 0, 1, 0), 10, 0);
    }
}
