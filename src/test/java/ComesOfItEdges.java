import java.util.function.Supplier;

/** What comes of it: spills, again, burnt, trees, alike (terms 3), promises 10 to 14. */
final class ComesOfItEdges {
    /** Three plain places, each joined with each other and with the pit; they bear 3. */
    private static final String TRIANGLE = "y3111;p10;p10;p10";

    private ComesOfItEdges() {
    }

    static void all() {
        spillTerms();
        againTerms();
        burntTerms();
        treesTerms();
        alikeTerms();
        spill();
        again();
        burnt();
        trees();
        alike();
        alikeRefused();
    }

    private static ToppleYard triangle(int... heaps) {
        ToppleYard x = Check.withYard(TRIANGLE);
        Scene.heaps(x, heaps);
        return x;
    }

    private static void spillTerms() {
        DocumentText.terms(3, "SPILL of a PLACE: a grain is dropped there, then to SETTLE (nothing is changed): what that sets off.");
        for (int p = 0; p < 3; p++) {
            for (int what = 0; what <= 2; what++) {
                int place = p;
                int asked = what;
                Scene.leavesAll("spill " + p + ", " + what, Scene::inUse, x -> x.spill(place, asked),
                        new int[][] {{0, 0, 0}, {0, 0, 0}, {2, 2, 5}}[p][what], Scene.SIZE);
            }
        }
        for (int p = 0; p < 3; p++) {
            ToppleYard x = triangle(5, 4, 2);
            int topplings = x.spill(p, 0);
            int fallen = x.spill(p, 1);
            x.drop(p, 1);
            DocumentText.due("as if dropped and settled", topplings, x.settle());
            DocumentText.due("as if dropped and settled", fallen, x.many(2));
        }
        // The least a, b by which 1000 - 4 a + 3 b and 3 a - 4 b are 0 .. 3: 569, 426. One falls by each.
        Scene.leavesAll("on 999, where drop() is refused", Scene::full, x -> x.spill(0, 0), 569 + 426, Scene.SIZE);
        Scene.leavesAll("on 999, fallen", Scene::full, x -> x.spill(0, 1), 569 + 426, Scene.SIZE);
    }

    private static void againTerms() {
        DocumentText.terms(3, "AGAIN: that again and again, from how all is SETTLED: behind how many grains HEAPS are first such as"
                + " come back; by how many more they do.");
        ToppleYard one = Check.withYard("y20;p10;p20");
        DocumentText.due("come back at once", one.again(0, 0), 0);
        DocumentText.due("by 1", one.again(0, 1), 1);
        DocumentText.due("0, 1, 0", one.again(1, 0), 0);
        DocumentText.due("by 2", one.again(1, 1), 2);
        ToppleYard broad = Check.withYard("y20;b10;d20");
        DocumentText.due("0, 1, 1", broad.again(0, 0), 1);
        DocumentText.due("by 1", broad.again(0, 1), 1);
        // It bears 4 and gives 2: 0, 1, 2, 3, 2.
        DocumentText.due("0, 1, 2, 3, 2", broad.again(1, 0), 2);
        DocumentText.due("by 2", broad.again(1, 1), 2);
        broad.heap(1, 4);
        DocumentText.due("settled first, to 2", broad.again(1, 0), 0);
        broad.heap(1, 99);
        DocumentText.due("settled first, to 3", broad.again(1, 0), 0);
        DocumentText.due("by 2", broad.again(1, 1), 2);
        DocumentText.due("nothing is changed", broad.ofPlace(1, 2), 99);
        // Place 4 bears 30, as many as any can, and stands with 29. By the 30th grain it gives 3 to each of
        // the others, and has 15; by the 45th they give it back 12, and it has 27, as behind the 42nd.
        ToppleYard most = Check.withYard("y50003003033;d00;d00;d00;d01;d30");
        DocumentText.due("as high as can be", most.again(4, 0), 42);
        DocumentText.due("as high as can be, by 3", most.again(4, 1), 3);
    }

    private static void burntTerms() {
        DocumentText.terms(3, "BURNT: FIRE comes up from the PIT: a PLACE takes FIRE, if its HEAP and its PATHS to the PIT and to"
                + " PLACES that have taken FIRE are together no less than it BEARS; and so on, till none does any more.");
        int[][] heaps = {{1, 1, 1}, {2, 0, 0}, {2, 1, 0}, {0, 1, 2}, {0, 2, 0}, {0, 0, 2}, {2, 2, 2}, {2, 0, 1}, {1, 1, 2}};
        int[] wants = {0, 1, 7, 7, 2, 4, 7, 7, 7};
        for (int t = 0; t < heaps.length; t++) {
            DocumentText.due("triangle " + t, triangle(heaps[t]).burnt(), wants[t]);
        }
        // A row 0 - 1 - 2 - 3 - 4 - pit: the fire goes from the last to the first, or stops on its way.
        ToppleYard row = Check.withYard("y51000100101;p00;p01;p01;p01;p11");
        DocumentText.due("the first has none, and bears 1", row.burnt(), 31);
        row.heap(2, 0);
        DocumentText.due("it stops at place 2", row.burnt(), 24);
        row.heap(4, 0);
        DocumentText.due("it doesn't begin", row.burnt(), 0);
        ToppleYard kinds = Check.withYard("y20;b20;d20");
        int[][] kindHeaps = {{0, 1}, {1, 2}, {1, 1}, {2, 3}};
        int[] kindWants = {0, 3, 1, 3};
        for (int t = 0; t < kindHeaps.length; t++) {
            Scene.heaps(kinds, kindHeaps[t]);
            DocumentText.due("broad and double " + t, kinds.burnt(), kindWants[t]);
        }
    }

    private static void treesTerms() {
        DocumentText.terms(3, "TREES: in how many ways one can choose PATHS so that from each PLACE there is just one way along"
                + " chosen PATHS to the PIT (PATHS beside one another are others).");
        DocumentText.due("one way", Check.withYard("y20;p10;p10").trees(), 1);
        DocumentText.due("a ring of three", Check.withYard("y21;p10;p10").trees(), 3);
        DocumentText.due("paths beside one another", Check.withYard("y20;p30;p20").trees(), 6);
        DocumentText.due("in a row", Check.withYard("y23;p00;p30").trees(), 9);
        DocumentText.due("triangle", Check.withYard(TRIANGLE).trees(), 16);
        DocumentText.due("5 places, all joined once", Check.withYard("y51111111111;p10;p10;p10;p10;p10").trees(), 1296);
        DocumentText.due("most", Check.withYard("y53333333333;d39;d39;d39;d39;d39").trees(), 1296 * 243);
    }

    private static int alikeTo(ToppleYard x, int... told) {
        Check.row(x, 1, 2, told);
        return x.alike(1, 2, 0);
    }

    private static void alikeTerms() {
        DocumentText.terms(3, "ALIKE: HEAPS of now and a told row of HEAPS, if there are whole numbers, one for each PLACE"
                + " (0, or below 0, too), so that the one become the other ones, if each PLACE TOPPLES so often"
                + " (whatever it BEARS; backwards, if it is below 0).");
        ToppleYard x = triangle(3, 2, 2);
        DocumentText.due("0 each", alikeTo(x, 3, 2, 2), 1);
        DocumentText.due("place 0 once", alikeTo(x, 0, 3, 3), 1);
        DocumentText.due("place 2 backwards", alikeTo(x, 2, 1, 5), 1);
        DocumentText.due("each once", alikeTo(x, 2, 1, 1), 1);
        DocumentText.due("each backwards", alikeTo(x, 4, 3, 3), 1);
        DocumentText.due("a grain more", alikeTo(x, 4, 2, 2), 0);
        DocumentText.due("a grain less", alikeTo(x, 3, 2, 1), 0);
        DocumentText.due("a grain elsewhere", alikeTo(x, 2, 3, 2), 0);
        DocumentText.due("4 more on one: 2, 1, 1 backwards", alikeTo(x, 7, 2, 2), 1);
        DocumentText.due("2 more on one: halves", alikeTo(x, 5, 2, 2), 0);
        ToppleYard low = Check.withYard("y21;d20;b20");
        DocumentText.due("8 more on one: 3, 1 backwards", alikeTo(low, 8, 0), 1);
        DocumentText.due("whatever it bears", alikeTo(low, 3, 7), 1);
        DocumentText.due("a third part", alikeTo(low, 1, 0), 0);
        ToppleYard full = Scene.full();
        full.heap(1, 4);
        full.topple(1);
        DocumentText.due("1002 and 0 before it toppled", alikeTo(full, 999, 4), 1);
        DocumentText.due("and not so", alikeTo(full, 999, 5), 0);
    }

    private static void spill() {
        DocumentText.promise(10, "SPILL: how many TOPPLINGS (what 0), how many grains have FALLEN (1), which PLACES TOPPLED,"
                + " as a set (2).");
        ToppleYard x = triangle(2, 1, 1);
        int[][] wants = {{1, 1, 1}, {0, 0, 0}, {0, 0, 0}};
        for (int p = 0; p < 3; p++) {
            for (int what = 0; what <= 2; what++) {
                DocumentText.due("spill " + p + ", " + what, x.spill(p, what), wants[p][what]);
            }
        }
        ToppleYard row = Check.withYard("y51000100101;p00;p01;p01;p01;p11");
        DocumentText.due("all of 5", row.spill(4, 2), 31);
        DocumentText.due("one falls", row.spill(4, 1), 1);
        DocumentText.promise(10, "UNKNOWN; OUTSIDE.");
        for (int p : Scene.NO_PLACES) {
            Scene.refused("place " + p, y -> y.spill(p, 0), Scene.UNKNOWN);
        }
        for (int what : new int[] {-1, 3, Scene.MIN, Scene.MAX}) {
            Scene.refused("what " + what, y -> y.spill(0, what), Scene.OUTSIDE);
        }
        Scene.refused("no yard", Scene::noYard, y -> y.spill(0, 0), Scene.UNKNOWN);
    }

    private static void again() {
        DocumentText.promise(11, "AGAIN: behind how many grains (what 0), by how many (1); NONE: both together are more than 500.");
        Supplier<ToppleYard> far = () -> Check.withYard("y51010323020;d13;b07;b21;b08;d02");
        Scene.leavesAll("500 together", far, x -> x.again(2, 0), 9, 0);
        Scene.leavesAll("500 together", far, x -> x.again(2, 1), 491, 0);
        Supplier<ToppleYard> farther = () -> {
            ToppleYard x = far.get();
            x.heap(2, 0);
            return x;
        };
        Scene.leavesAll("501 together", farther, x -> x.again(2, 0), Scene.NONE, 0);
        Scene.leavesAll("501 together", farther, x -> x.again(2, 1), Scene.NONE, 0);
        Scene.leavesAll("not settled", () -> triangle(6, 0, 0), x -> x.again(0, 0), 0, 0);
        DocumentText.promise(11, "UNKNOWN; OUTSIDE.");
        for (int p : Scene.NO_PLACES) {
            Scene.refused("place " + p, x -> x.again(p, 0), Scene.UNKNOWN);
        }
        for (int what : new int[] {-1, 2, Scene.MIN, Scene.MAX}) {
            Scene.refused("what " + what, x -> x.again(0, what), Scene.OUTSIDE);
        }
        Scene.refused("no yard", Scene::noYard, x -> x.again(0, 0), Scene.UNKNOWN);
    }

    private static void burnt() {
        DocumentText.promise(12, "BURNT, as a set.");
        Scene.leavesAll("in use: place 2 has 7 and 2, then place 0 has 1 and 2, then place 1", Scene::inUse, x -> x.burnt(), 7,
                Scene.SIZE);
        DocumentText.promise(12, "STATE: there is no YARD, it is not SETTLED.");
        Scene.refused("no yard", Scene::noYard, x -> x.burnt(), Scene.STATE);
        for (int p = 0; p < 3; p++) {
            int place = p;
            Scene.refused("place " + p + " can topple", () -> ready(place), x -> x.burnt(), Scene.STATE);
        }
        Scene.refused("full", Scene::full, x -> x.burnt(), Scene.STATE);
    }

    private static ToppleYard ready(int p) {
        ToppleYard x = Scene.inUse();
        x.heap(p, x.ofPlace(p, 4));
        return x;
    }

    private static void trees() {
        DocumentText.promise(13, "TREES.");
        Scene.leavesAll("in use", Scene::inUse, x -> x.trees(), 12, Scene.SIZE);
        Scene.leavesAll("full", Scene::full, x -> x.trees(), 7, Scene.SIZE);
        DocumentText.promise(13, "LOST: STATE: there is no YARD.");
        Scene.refused("no yard", Scene::noYard, x -> x.trees(), Scene.LOST);
    }

    /** The scene in use, whose heaps are 1, 1, 7, with a row of shorts in sheet 1. */
    private static ToppleYard told(int... cells) {
        ToppleYard x = Scene.inUse();
        Check.row(x, 1, 1, cells);
        x.sheet(3, 0, -1);
        return x;
    }

    private static void alike() {
        DocumentText.promise(14, "Whether HEAPS are ALIKE those told by as many cells of a SHEET from i on as there are PLACES: 1, 0.");
        Scene.leavesAll("the same", () -> told(1, 1, 7), x -> x.alike(1, 1, 0), 1, 0);
        Scene.leavesAll("a grain more", () -> told(1, 1, 8), x -> x.alike(1, 1, 0), 0, 0);
        Scene.leavesAll("the last cells", () -> told(9, 9, 1, 1, 7), x -> x.alike(1, 1, 2), 1, 0);
        Scene.leavesAll("cells in the midst", () -> told(-1, 1, 1, 7, 1000), x -> x.alike(1, 1, 1), 1, 0);
        ToppleYard row = Scene.inUse();
        row.sheet(3, 0, 60);
        row.put(3, 57, 1);
        row.put(3, 58, 1);
        row.put(3, 59, 7);
        DocumentText.due("the last of 60, bytes", row.alike(3, 0, 57), 1);
        ToppleYard five = Check.withYard("y50000000000;p10;p10;p10;p10;p20");
        DocumentText.due("5 places, the last differs", alikeTo(five, 5, 6, 7, 8, 1), 0);
        DocumentText.due("5 places", alikeTo(five, 5, 6, 7, 8, 2), 1);
        ToppleYard two = Check.withYard("y20;p20;p30");
        DocumentText.due("2 places", alikeTo(two, 2, 3), 1);
        DocumentText.due("2 places, the first differs", alikeTo(two, 1, 3), 0);
        DocumentText.due("2 places, the second differs", alikeTo(two, 2, 2), 0);
    }

    private static void alikeRefused() {
        DocumentText.promise(14, "STATE: there is no YARD;");
        Scene.refusedNaming("no yard", Scene::noYard, x -> x.alike(2, 2, 0), Scene.STATE);
        Scene.refusedNaming("ahead of faults", Scene::noYard, x -> x.alike(3, 0, -1), Scene.STATE);
        DocumentText.promise(14, "UNKNOWN: SHEET; OUTSIDE: lane;");
        for (int k : Scene.NO_SHEETS) {
            Scene.refusedNaming("sheet " + k, x -> x.alike(k, 2, 0), Scene.UNKNOWN);
        }
        for (int lane : Scene.NO_LANES) {
            Scene.refusedNaming("lane " + lane, x -> x.alike(2, lane, 0), Scene.OUTSIDE);
            Scene.refusedNaming("lane " + lane + " of nothing", x -> x.alike(3, lane, 0), Scene.OUTSIDE);
        }
        DocumentText.promise(14, "FAULTS CAST, NULL, INDEX;");
        for (int lane = 0; lane <= 2; lane++) {
            int asked = lane;
            Scene.faulted("nothing as " + lane, x -> x.alike(3, asked, 0), 1);
            Scene.faulted("another lane than " + lane, x -> x.alike((asked + 1) % 3, asked, 0), 2);
        }
        Scene.faulted("from -1 on", () -> told(1, 1, 7), x -> x.alike(1, 1, -1), 3);
        Scene.faulted("one too far", () -> told(1, 1, 7), x -> x.alike(1, 1, 1), 3);
        Scene.faulted("just behind the last", () -> told(1, 1, 7), x -> x.alike(1, 1, 3), 3);
        Scene.faulted("one too few", () -> told(1, 1), x -> x.alike(1, 1, 0), 3);
        Scene.faulted("a row of none", () -> told(), x -> x.alike(1, 1, 0), 3);
        Scene.faulted("most", () -> told(1, 1, 7), x -> x.alike(1, 1, Scene.MAX), 3);
        Scene.faulted("least", () -> told(1, 1, 7), x -> x.alike(1, 1, Scene.MIN), 3);
        Scene.faulted("ahead of a wrong cell", () -> told(-1, 1, 7), x -> x.alike(1, 1, 1), 3);
        DocumentText.promise(14, "OUTSIDE: a cell is not 0 .. 999.");
        for (int at = 0; at < 3; at++) {
            int[] cells = {0, 0, 0};
            Scene.leavesAll("0", () -> told(cells.clone()), x -> x.alike(1, 1, 0), 0, 0);
            for (int wrong : new int[] {-1, 1000, Short.MIN_VALUE, Short.MAX_VALUE}) {
                int[] spoilt = cells.clone();
                spoilt[at] = wrong;
                Scene.refusedNaming(wrong + " at " + at, () -> told(spoilt), x -> x.alike(1, 1, 0), Scene.OUTSIDE);
            }
            int[] most = cells.clone();
            most[at] = 999;
            DocumentText.dueTrue("999 at " + at, told(most).alike(1, 1, 0) >= 0);
        }
    }
}
